/-! MEANINGS ARE SOUND 3 -/
-- 81: PlainPacks$Blocks.setKnownCodes()V (depth 3)
theorem mm_own_81 : mm_own 81 = 6 := rfl
def mp_81_2 (L : Nat) (xs : Nat → Int32) (d : Nat) (v1 : Int32) (M : mm_M) (o : mm_E) : Prop := mm_Runs L xs d 81 (2, [some (.ref 16), some (.int v1)], [], M) o
def mp_81_28 (L : Nat) (xs : Nat → Int32) (d : Nat) (M : mm_M) (o : mm_E) : Prop := ∀ z1 : Option Value, mm_Runs L xs d 81 (28, [some (.ref 16), z1], [], M) o
set_option maxRecDepth 8000 in
set_option maxHeartbeats 4000000 in
theorem ms_81_b2 {L : Nat} {xs : Nat → Int32} {d : Nat} (hd : 3 ≤ d) {v1 : Int32} {M : mm_M} {q : (((Int32) ⊕ (Unit)) ⊕ Nat) × mm_M} {o : mm_E} (h : mf_81_b2 v1 M = some q) (hA : mm_A (mm_K2 (fun s M o => mp_81_2 L xs (d) s M o) (fun r M o => mp_81_28 L xs (d) M o)) q o) : mp_81_2 L xs d v1 M o := by
  unfold mf_81_b2 at h
  obtain ⟨d, rfl⟩ := mm_d1 (n := 2) hd
  show mm_Runs L xs (d + 1) 81 (2, [some (.ref 16), some (.int v1)], [], M) o
  refine mm_Runs.seq (l := [(2, .iload_n 1, 1), (3, .sipush 288, 3)]) (S2 := (6, [some (.ref 16), some (.int v1)], [.int (288 : Int32), .int v1], M)) (by decide +kernel) (hO := mm_own_81) rfl ?_
  refine mm_R_ige (t := 28) rfl rfl rfl (fun hc => ?_) (fun hc => ?_)
  · replace h := mm_ip hc h
    refine mm_Runs.seq (l := [(9, .aload_n 0, 1), (10, .getfield 16, 3), (13, .getfield 134, 3), (16, .iload_n 1, 1), (17, .iload_n 1, 1)]) (S2 := (18, [some (.ref 16), some (.int v1)], [.int v1, .int v1, .ref 18], M)) (by decide +kernel) (hO := mm_own_81) rfl ?_
    refine mm_R_call (v := mm_wi) h hA (k2 := 82) (as := [.int v1]) (r := [.int v1, .ref 18]) rfl (fun _ => rfl) (fun q hq o ho => ms_82 (by omega) hq ho) (fun r1 M2 h => ?_)
    show mm_Runs L xs (d + 1) 81 (21, [some (.ref 16), some (.int v1)], [.int r1, .int v1, .ref 18], M2) o
    obtain ⟨hb, h⟩ := mm_gd h
    refine mm_R_iast rfl rfl hb ?_
    refine mm_Runs.seq (l := [(22, .iinc 1 1, 3), (25, .goto (-23), 3)]) (S2 := (2, [some (.ref 16), some (.int (v1 + (1 : Int32)))], [], (mm_pi M2 18 v1.toNatClampNeg r1))) (by decide +kernel) (hO := mm_own_81) rfl ?_
    cases h
    exact (show mp_81_2 L xs (d + 1) (v1 + (1 : Int32)) (mm_pi M2 18 v1.toNatClampNeg r1) o from hA)
  · replace h := mm_iq hc h
    cases h
    exact (show mp_81_28 L xs (d + 1) M o from hA) (some (.int v1))
theorem ms_81_L2 {L : Nat} {xs : Nat → Int32} {d : Nat} (hd : 3 ≤ d) {v1 : Int32} {β : Type} {K : β → mm_M → mm_E → Prop} {F : (Unit) → mm_M → mm_O β} {M : mm_M} {q : (β ⊕ Nat) × mm_M} {o : mm_E} (h : mm_B (mf_81_L2 v1 M) F = some q) (hA : mm_A K q o) (hx : ∀ (r : (Unit)) (M2 : mm_M), F r M2 = some q → (fun r M o => mp_81_28 L xs (d) M o) r M2 o) : mp_81_2 L xs d v1 M o := by
  unfold mf_81_L2 at h
  exact mm_R_loop (step := (fun s M => mf_81_b2 s M)) (s := v1) (M := M) (P := (fun s M o => mp_81_2 L xs (d) s M o)) (X := (fun r M o => mp_81_28 L xs (d) M o)) h hA (fun s M q hq hA => ms_81_b2 (v1 := s) (M := M) (q := q) hd hq hA) hx
set_option maxRecDepth 8000 in
set_option maxHeartbeats 4000000 in
theorem ms_81_j28 {L : Nat} {xs : Nat → Int32} {d : Nat} (hd : 3 ≤ d) {M : mm_M} {q : (Unit ⊕ Nat) × mm_M} {o : mm_E} (h : mf_81_j28 M = some q) (hA : mm_A (mm_Kr mm_wv) q o) : mp_81_28 L xs d M o := by
  unfold mf_81_j28 at h
  obtain ⟨d, rfl⟩ := mm_d1 (n := 2) hd
  intro z1
  show mm_Runs L xs (d + 1) 81 (28, [some (.ref 16), z1], [], M) o
  refine mm_Runs.seq (l := [(28, .aload_n 0, 1), (29, .getfield 16, 3), (32, .sipush 288, 3)]) (S2 := (35, [some (.ref 16), z1], [.int (288 : Int32), .ref 17], M)) (by decide +kernel) (hO := mm_own_81) rfl ?_
  refine mm_R_call (v := mm_wv) h hA (k2 := 99) (as := [.ref 17, .int (288 : Int32)]) (r := []) rfl (fun _ => rfl) (fun q hq o ho => ms_99 ⟨rfl, rfl, rfl, rfl, rfl⟩ (by omega) hq ho) (fun _ M1 h => ?_)
  show mm_Runs L xs (d + 1) 81 (38, [some (.ref 16), z1], [], M1) o
  refine mm_Runs.seq (l := [(38, .aload_n 0, 1), (39, .getfield 20, 3), (42, .getfield 134, 3), (45, .iconst 5, 1)]) (S2 := (46, [some (.ref 16), z1], [.int (5 : Int32), .ref 23], M1)) (by decide +kernel) (hO := mm_own_81) rfl ?_
  refine mm_R_call (v := mm_wv) h hA (k2 := 290) (as := [.ref 23, .int (5 : Int32)]) (r := []) rfl (fun _ => rfl) (fun q hq o ho => ms_290 rfl (by omega) hq ho) (fun _ M2 h => ?_)
  show mm_Runs L xs (d + 1) 81 (49, [some (.ref 16), z1], [], M2) o
  refine mm_Runs.seq (l := [(49, .aload_n 0, 1), (50, .getfield 20, 3), (53, .bipush 32, 2)]) (S2 := (55, [some (.ref 16), z1], [.int (32 : Int32), .ref 22], M2)) (by decide +kernel) (hO := mm_own_81) rfl ?_
  refine mm_R_call (v := mm_wv) h hA (k2 := 99) (as := [.ref 22, .int (32 : Int32)]) (r := []) rfl (fun _ => rfl) (fun q hq o ho => ms_99 ⟨rfl, rfl, rfl, rfl, rfl⟩ (by omega) hq ho) (fun _ M3 h => ?_)
  show mm_Runs L xs (d + 1) 81 (58, [some (.ref 16), z1], [], M3) o
  cases h
  exact mm_R_retv rfl rfl hA
set_option maxRecDepth 8000 in
set_option maxHeartbeats 4000000 in
theorem ms_81 {L : Nat} {xs : Nat → Int32} {d : Nat} (hd : 3 ≤ d) {M : mm_M} {q : (Unit ⊕ Nat) × mm_M} {o : mm_E} (h : mf_81 M = some q) (hA : mm_A (mm_Kr mm_wv) q o) : mm_Runs L xs d 81 (0, mm_ent (mm_ml 81) [.ref 16], [], M) o := by
  unfold mf_81 at h
  obtain ⟨d, rfl⟩ := mm_d1 (n := 2) hd
  show mm_Runs L xs (d + 1) 81 (0, [some (.ref 16), none], [], M) o
  refine mm_Runs.seq (l := [(0, .iconst 0, 1), (1, .istore_n 1, 1)]) (S2 := (2, [some (.ref 16), some (.int (0 : Int32))], [], M)) (by decide +kernel) (hO := mm_own_81) rfl ?_
  have hp : mp_81_2 L xs (d + 1) (0 : Int32) M o := by
    refine ms_81_L2 hd h hA (fun r2 M1 h => ?_)
    intro y3
    show mm_Runs L xs (d + 1) 81 (28, [some (.ref 16), y3], [], M1) o
    exact (ms_81_j28 hd h hA : mp_81_28 L xs (d + 1) M1 o) y3
  exact hp
-- 102: PlainPacks$Codes.isFullOrOne()Z (depth 0)
theorem mm_own_102 : mm_own 102 = 7 := rfl
set_option maxRecDepth 8000 in
set_option maxHeartbeats 4000000 in
theorem ms_102 {L : Nat} {xs : Nat → Int32} {p : Nat} {n : Nat} {d : Nat} (hC : mm_isC p n) (hd : 0 ≤ d) {M : mm_M} {q : (Int32 ⊕ Nat) × mm_M} {o : mm_E} (h : mf_102 p n M = some q) (hA : mm_A (mm_Kr mm_wi) q o) : mm_Runs L xs d 102 (0, mm_ent (mm_ml 102) [.ref p], [], M) o := by
  unfold mf_102 at h
  show mm_Runs L xs (d) 102 (0, [some (.ref p)], [], M) o
  refine mm_Runs.seq (l := [(0, .aload_n 0, 1)]) (S2 := (1, [some (.ref p)], [.ref p], M)) (by decide +kernel) (hO := mm_own_102) rfl ?_
  refine mm_R_getf (ci := 7) (j := 5) (f := .inr .int) rfl rfl (mm_isC_f5 hC) ?_
  show mm_Runs L xs (d) 102 (4, [some (.ref p)], [.int (M.1 p 5)], M) o
  refine mm_Runs.seq (l := [(4, .ldc 41, 2)]) (S2 := (6, [some (.ref p)], [.int (1048576 : Int32), .int (M.1 p 5)], M)) (by decide +kernel) (hO := mm_own_102) rfl ?_
  refine mm_R_ieq (t := 27) rfl rfl rfl (fun hc => ?_) (fun hc => ?_)
  · replace h := mm_ip hc h
    refine mm_Runs.seq (l := [(27, .iconst 1, 1), (28, .goto 4, 3)]) (S2 := (32, [some (.ref p)], [.int (1 : Int32)], M)) (by decide +kernel) (hO := mm_own_102) rfl ?_
    cases h
    exact mm_R_retb rfl rfl rfl hA
  · replace h := mm_iq hc h
    refine mm_Runs.seq (l := [(9, .aload_n 0, 1)]) (S2 := (10, [some (.ref p)], [.ref p], M)) (by decide +kernel) (hO := mm_own_102) rfl ?_
    refine mm_R_getf (ci := 7) (j := 4) (f := .inr .int) rfl rfl (mm_isC_f4 hC) ?_
    show mm_Runs L xs (d) 102 (13, [some (.ref p)], [.int (M.1 p 4)], M) o
    refine mm_Runs.seq (l := [(13, .iconst 1, 1)]) (S2 := (14, [some (.ref p)], [.int (1 : Int32), .int (M.1 p 4)], M)) (by decide +kernel) (hO := mm_own_102) rfl ?_
    refine mm_R_ine (t := 31) rfl rfl rfl (fun hc => ?_) (fun hc => ?_)
    · replace h := mm_ip hc h
      refine mm_Runs.seq (l := [(17, .aload_n 0, 1)]) (S2 := (18, [some (.ref p)], [.ref p], M)) (by decide +kernel) (hO := mm_own_102) rfl ?_
      refine mm_R_getf (ci := 7) (j := 2) (f := .inl (p + 3)) rfl rfl (mm_isC_f2 hC) ?_
      show mm_Runs L xs (d) 102 (21, [some (.ref p)], [.ref (p + 3)], M) o
      refine mm_Runs.seq (l := [(21, .iconst 1, 1)]) (S2 := (22, [some (.ref p)], [.int (1 : Int32), .ref (p + 3)], M)) (by decide +kernel) (hO := mm_own_102) rfl ?_
      obtain ⟨hb, h⟩ := mm_gd h
      refine mm_R_iald rfl (mm_isC_a3 hC) hb ?_
      refine mm_Runs.seq (l := [(23, .iconst 1, 1)]) (S2 := (24, [some (.ref p)], [.int (1 : Int32), .int (M.1 (p + 3) (1 : Int32).toNatClampNeg)], M)) (by decide +kernel) (hO := mm_own_102) rfl ?_
      refine mm_R_ine (t := 31) rfl rfl rfl (fun hc => ?_) (fun hc => ?_)
      · replace h := mm_ip hc h
        refine mm_Runs.seq (l := [(27, .iconst 1, 1), (28, .goto 4, 3)]) (S2 := (32, [some (.ref p)], [.int (1 : Int32)], M)) (by decide +kernel) (hO := mm_own_102) rfl ?_
        cases h
        exact mm_R_retb rfl rfl rfl hA
      · replace h := mm_iq hc h
        refine mm_Runs.seq (l := [(31, .iconst 0, 1)]) (S2 := (32, [some (.ref p)], [.int (0 : Int32)], M)) (by decide +kernel) (hO := mm_own_102) rfl ?_
        cases h
        exact mm_R_retb rfl rfl rfl hA
    · replace h := mm_iq hc h
      refine mm_Runs.seq (l := [(31, .iconst 0, 1)]) (S2 := (32, [some (.ref p)], [.int (0 : Int32)], M)) (by decide +kernel) (hO := mm_own_102) rfl ?_
      cases h
      exact mm_R_retb rfl rfl rfl hA
-- 83: PlainPacks$Blocks.readRowCodes()V (depth 9)
theorem mm_own_83 : mm_own 83 = 6 := rfl
def mp_83_32 (L : Nat) (xs : Nat → Int32) (d : Nat) (s0 : Int32) (M : mm_M) (o : mm_E) : Prop := ∀ z1 z2 : Option Value, mm_Runs L xs d 83 (32, [some (.ref 16), z1, z2], [.int s0], M) o
def mp_83_64 (L : Nat) (xs : Nat → Int32) (d : Nat) (s0 : Int32) (M : mm_M) (o : mm_E) : Prop := ∀ z1 z2 : Option Value, mm_Runs L xs d 83 (64, [some (.ref 16), z1, z2], [.int s0], M) o
def mp_83_92 (L : Nat) (xs : Nat → Int32) (d : Nat) (v1 : Int32) (v2 : Int32) (M : mm_M) (o : mm_E) : Prop := mm_Runs L xs d 83 (92, [some (.ref 16), some (.int v1), some (.int v2)], [], M) o
def mp_83_133 (L : Nat) (xs : Nat → Int32) (d : Nat) (M : mm_M) (o : mm_E) : Prop := ∀ z1 z2 : Option Value, mm_Runs L xs d 83 (133, [some (.ref 16), z1, z2], [], M) o
set_option maxRecDepth 8000 in
set_option maxHeartbeats 4000000 in
theorem ms_83_b92 {L : Nat} {xs : Nat → Int32} {d : Nat} (hd : 9 ≤ d) {v1 : Int32} {v2 : Int32} {M : mm_M} {q : (((Int32) ⊕ (Unit)) ⊕ Nat) × mm_M} {o : mm_E} (h : mf_83_b92 v1 v2 M = some q) (hA : mm_A (mm_K2 (fun s M o => mp_83_92 L xs (d) v1 s M o) (fun r M o => mp_83_133 L xs (d) M o)) q o) : mp_83_92 L xs d v1 v2 M o := by
  unfold mf_83_b92 at h
  obtain ⟨d, rfl⟩ := mm_d1 (n := 8) hd
  show mm_Runs L xs (d + 1) 83 (92, [some (.ref 16), some (.int v1), some (.int v2)], [], M) o
  refine mm_Runs.seq (l := [(92, .iload_n 2, 1), (93, .iload_n 1, 1)]) (S2 := (94, [some (.ref 16), some (.int v1), some (.int v2)], [.int v1, .int v2], M)) (by decide +kernel) (hO := mm_own_83) rfl ?_
  refine mm_R_ige (t := 133) rfl rfl rfl (fun hc => ?_) (fun hc => ?_)
  · replace h := mm_ip hc h
    refine mm_Runs.seq (l := [(97, .iload_n 2, 1), (98, .getstatic 23, 3), (101, .arraylength, 1)]) (S2 := (102, [some (.ref 16), some (.int v1), some (.int v2)], [.int (19 : Int32), .int v2], M)) (by decide +kernel) (hO := mm_own_83) rfl ?_
    refine mm_R_ige (t := 133) rfl rfl rfl (fun hc => ?_) (fun hc => ?_)
    · replace h := mm_ip hc h
      refine mm_Runs.seq (l := [(105, .aload_n 0, 1), (106, .getfield 27, 3), (109, .getfield 134, 3), (112, .getstatic 23, 3), (115, .iload_n 2, 1)]) (S2 := (116, [some (.ref 16), some (.int v1), some (.int v2)], [.int v2, .ref 201, .ref 28], M)) (by decide +kernel) (hO := mm_own_83) rfl ?_
      obtain ⟨hb, h⟩ := mm_gd h
      refine mm_R_ialr rfl hb ?_
      refine mm_Runs.seq (l := [(117, .aload_n 0, 1), (118, .getfield 39, 3), (121, .iconst 3, 1)]) (S2 := (122, [some (.ref 16), some (.int v1), some (.int v2)], [.int (3 : Int32), .ref 1, .int (mm_row v2.toNatClampNeg), .ref 28], M)) (by decide +kernel) (hO := mm_own_83) rfl ?_
      refine mm_R_call (v := mm_wl) h hA (k2 := 46) (as := [.ref 1, .int (3 : Int32)]) (r := [.int (mm_row v2.toNatClampNeg), .ref 28]) rfl (fun _ => rfl) (fun q hq o ho => ms_46 (by omega) hq ho) (fun r1 M2 h => ?_)
      show mm_Runs L xs (d + 1) 83 (125, [some (.ref 16), some (.int v1), some (.int v2)], [.long r1, .int (mm_row v2.toNatClampNeg), .ref 28], M2) o
      refine mm_Runs.seq (l := [(125, .l2i, 1)]) (S2 := (126, [some (.ref 16), some (.int v1), some (.int v2)], [.int r1.toInt32, .int (mm_row v2.toNatClampNeg), .ref 28], M2)) (by decide +kernel) (hO := mm_own_83) rfl ?_
      obtain ⟨hb, h⟩ := mm_gd h
      refine mm_R_iast rfl rfl hb ?_
      refine mm_Runs.seq (l := [(127, .iinc 2 1, 3), (130, .goto (-38), 3)]) (S2 := (92, [some (.ref 16), some (.int v1), some (.int (v2 + (1 : Int32)))], [], (mm_pi M2 28 (mm_row v2.toNatClampNeg).toNatClampNeg r1.toInt32))) (by decide +kernel) (hO := mm_own_83) rfl ?_
      cases h
      exact (show mp_83_92 L xs (d + 1) v1 (v2 + (1 : Int32)) (mm_pi M2 28 (mm_row v2.toNatClampNeg).toNatClampNeg r1.toInt32) o from hA)
    · replace h := mm_iq hc h
      cases h
      exact (show mp_83_133 L xs (d + 1) M o from hA) (some (.int v1)) (some (.int v2))
  · replace h := mm_iq hc h
    cases h
    exact (show mp_83_133 L xs (d + 1) M o from hA) (some (.int v1)) (some (.int v2))
theorem ms_83_L92 {L : Nat} {xs : Nat → Int32} {d : Nat} (hd : 9 ≤ d) {v1 : Int32} {v2 : Int32} {β : Type} {K : β → mm_M → mm_E → Prop} {F : (Unit) → mm_M → mm_O β} {M : mm_M} {q : (β ⊕ Nat) × mm_M} {o : mm_E} (h : mm_B (mf_83_L92 v1 v2 M) F = some q) (hA : mm_A K q o) (hx : ∀ (r : (Unit)) (M2 : mm_M), F r M2 = some q → (fun r M o => mp_83_133 L xs (d) M o) r M2 o) : mp_83_92 L xs d v1 v2 M o := by
  unfold mf_83_L92 at h
  exact mm_R_loop (step := (fun s M => mf_83_b92 v1 s M)) (s := v2) (M := M) (P := (fun s M o => mp_83_92 L xs (d) v1 s M o)) (X := (fun r M o => mp_83_133 L xs (d) M o)) h hA (fun s M q hq hA => ms_83_b92 (v1 := v1) (v2 := s) (M := M) (q := q) hd hq hA) hx
def mp_83_159 (L : Nat) (xs : Nat → Int32) (d : Nat) (s0 : Int32) (M : mm_M) (o : mm_E) : Prop := ∀ z0 z1 z2 : Option Value, mm_Runs L xs d 83 (159, [z0, z1, z2], [.int s0], M) o
set_option maxRecDepth 8000 in
set_option maxHeartbeats 4000000 in
theorem ms_83_j159 {L : Nat} {xs : Nat → Int32} {d : Nat} (hd : 9 ≤ d) {s0 : Int32} {M : mm_M} {q : (Unit ⊕ Nat) × mm_M} {o : mm_E} (h : mf_83_j159 s0 M = some q) (hA : mm_A (mm_Kr mm_wv) q o) : mp_83_159 L xs d s0 M o := by
  unfold mf_83_j159 at h
  obtain ⟨d, rfl⟩ := mm_d1 (n := 8) hd
  intro z0 z1 z2
  show mm_Runs L xs (d + 1) 83 (159, [z0, z1, z2], [.int s0], M) o
  refine mm_R_call (v := mm_wv) h hA (k2 := 27) (as := [.int s0]) (r := []) rfl (fun _ => rfl) (fun q hq o ho => ms_27 (by omega) hq ho) (fun _ M1 h => ?_)
  show mm_Runs L xs (d + 1) 83 (162, [z0, z1, z2], [], M1) o
  cases h
  exact mm_R_retv rfl rfl hA
set_option maxRecDepth 8000 in
set_option maxHeartbeats 4000000 in
theorem ms_83_j133 {L : Nat} {xs : Nat → Int32} {d : Nat} (hd : 9 ≤ d) {M : mm_M} {q : (Unit ⊕ Nat) × mm_M} {o : mm_E} (h : mf_83_j133 M = some q) (hA : mm_A (mm_Kr mm_wv) q o) : mp_83_133 L xs d M o := by
  unfold mf_83_j133 at h
  obtain ⟨d, rfl⟩ := mm_d1 (n := 8) hd
  intro z1 z2
  show mm_Runs L xs (d + 1) 83 (133, [some (.ref 16), z1, z2], [], M) o
  refine mm_Runs.seq (l := [(133, .aload_n 0, 1), (134, .getfield 27, 3), (137, .getstatic 23, 3), (140, .arraylength, 1)]) (S2 := (141, [some (.ref 16), z1, z2], [.int (19 : Int32), .ref 27], M)) (by decide +kernel) (hO := mm_own_83) rfl ?_
  refine mm_R_call (v := mm_wv) h hA (k2 := 99) (as := [.ref 27, .int (19 : Int32)]) (r := []) rfl (fun _ => rfl) (fun q hq o ho => ms_99 ⟨rfl, rfl, rfl, rfl, rfl⟩ (by omega) hq ho) (fun _ M1 h => ?_)
  show mm_Runs L xs (d + 1) 83 (144, [some (.ref 16), z1, z2], [], M1) o
  refine mm_Runs.seq (l := [(144, .aload_n 0, 1), (145, .getfield 27, 3)]) (S2 := (148, [some (.ref 16), z1, z2], [.ref 27], M1)) (by decide +kernel) (hO := mm_own_83) rfl ?_
  refine mm_R_call (v := mm_wi) h hA (k2 := 102) (as := [.ref 27]) (r := []) rfl (fun _ => rfl) (fun q hq o ho => ms_102 ⟨rfl, rfl, rfl, rfl, rfl⟩ (by omega) hq ho) (fun r2 M3 h => ?_)
  show mm_Runs L xs (d + 1) 83 (151, [some (.ref 16), z1, z2], [.int r2], M3) o
  refine mm_R_zne (t := 158) rfl rfl rfl (fun hc => ?_) (fun hc => ?_)
  · replace h := mm_ip hc h
    refine mm_Runs.seq (l := [(154, .iconst 1, 1), (155, .goto 4, 3)]) (S2 := (159, [some (.ref 16), z1, z2], [.int (1 : Int32)], M3)) (by decide +kernel) (hO := mm_own_83) rfl ?_
    exact (ms_83_j159 hd h hA : mp_83_159 L xs (d + 1) (1 : Int32) M3 o) (some (.ref 16)) z1 z2
  · replace h := mm_iq hc h
    refine mm_Runs.seq (l := [(158, .iconst 0, 1)]) (S2 := (159, [some (.ref 16), z1, z2], [.int (0 : Int32)], M3)) (by decide +kernel) (hO := mm_own_83) rfl ?_
    exact (ms_83_j159 hd h hA : mp_83_159 L xs (d + 1) (0 : Int32) M3 o) (some (.ref 16)) z1 z2
set_option maxRecDepth 8000 in
set_option maxHeartbeats 4000000 in
theorem ms_83_j64 {L : Nat} {xs : Nat → Int32} {d : Nat} (hd : 9 ≤ d) {s0 : Int32} {M : mm_M} {q : (Unit ⊕ Nat) × mm_M} {o : mm_E} (h : mf_83_j64 s0 M = some q) (hA : mm_A (mm_Kr mm_wv) q o) : mp_83_64 L xs d s0 M o := by
  unfold mf_83_j64 at h
  obtain ⟨d, rfl⟩ := mm_d1 (n := 8) hd
  intro z1 z2
  show mm_Runs L xs (d + 1) 83 (64, [some (.ref 16), z1, z2], [.int s0], M) o
  refine mm_R_call (v := mm_wv) h hA (k2 := 27) (as := [.int s0]) (r := []) rfl (fun _ => rfl) (fun q hq o ho => ms_27 (by omega) hq ho) (fun _ M1 h => ?_)
  show mm_Runs L xs (d + 1) 83 (67, [some (.ref 16), z1, z2], [], M1) o
  refine mm_Runs.seq (l := [(67, .iconst 4, 1), (68, .aload_n 0, 1), (69, .getfield 39, 3), (72, .iconst 4, 1)]) (S2 := (73, [some (.ref 16), z1, z2], [.int (4 : Int32), .ref 1, .int (4 : Int32)], M1)) (by decide +kernel) (hO := mm_own_83) rfl ?_
  refine mm_R_call (v := mm_wl) h hA (k2 := 46) (as := [.ref 1, .int (4 : Int32)]) (r := [.int (4 : Int32)]) rfl (fun _ => rfl) (fun q hq o ho => ms_46 (by omega) hq ho) (fun r2 M3 h => ?_)
  show mm_Runs L xs (d + 1) 83 (76, [some (.ref 16), z1, z2], [.long r2, .int (4 : Int32)], M3) o
  refine mm_Runs.seq (l := [(76, .l2i, 1), (77, .iadd, 1), (78, .istore_n 1, 1), (79, .aload_n 0, 1), (80, .getfield 27, 3), (83, .getfield 134, 3), (86, .iconst 0, 1)]) (S2 := (87, [some (.ref 16), some (.int ((4 : Int32) + r2.toInt32)), z2], [.int (0 : Int32), .ref 28], M3)) (by decide +kernel) (hO := mm_own_83) rfl ?_
  refine mm_R_call (v := mm_wv) h hA (k2 := 290) (as := [.ref 28, .int (0 : Int32)]) (r := []) rfl (fun _ => rfl) (fun q hq o ho => ms_290 rfl (by omega) hq ho) (fun _ M4 h => ?_)
  show mm_Runs L xs (d + 1) 83 (90, [some (.ref 16), some (.int ((4 : Int32) + r2.toInt32)), z2], [], M4) o
  refine mm_Runs.seq (l := [(90, .iconst 0, 1), (91, .istore_n 2, 1)]) (S2 := (92, [some (.ref 16), some (.int ((4 : Int32) + r2.toInt32)), some (.int (0 : Int32))], [], M4)) (by decide +kernel) (hO := mm_own_83) rfl ?_
  have hp : mp_83_92 L xs (d + 1) ((4 : Int32) + r2.toInt32) (0 : Int32) M4 o := by
    refine ms_83_L92 hd h hA (fun r6 M5 h => ?_)
    intro y7 y8
    show mm_Runs L xs (d + 1) 83 (133, [some (.ref 16), y7, y8], [], M5) o
    exact (ms_83_j133 hd h hA : mp_83_133 L xs (d + 1) M5 o) y7 y8
  exact hp
set_option maxRecDepth 8000 in
set_option maxHeartbeats 4000000 in
theorem ms_83_j32 {L : Nat} {xs : Nat → Int32} {d : Nat} (hd : 9 ≤ d) {s0 : Int32} {M : mm_M} {q : (Unit ⊕ Nat) × mm_M} {o : mm_E} (h : mf_83_j32 s0 M = some q) (hA : mm_A (mm_Kr mm_wv) q o) : mp_83_32 L xs d s0 M o := by
  unfold mf_83_j32 at h
  obtain ⟨d, rfl⟩ := mm_d1 (n := 8) hd
  intro z1 z2
  show mm_Runs L xs (d + 1) 83 (32, [some (.ref 16), z1, z2], [.int s0], M) o
  refine mm_R_call (v := mm_wv) h hA (k2 := 27) (as := [.int s0]) (r := []) rfl (fun _ => rfl) (fun q hq o ho => ms_27 (by omega) hq ho) (fun _ M1 h => ?_)
  show mm_Runs L xs (d + 1) 83 (35, [some (.ref 16), z1, z2], [], M1) o
  refine mm_Runs.seq (l := [(35, .aload_n 0, 1), (36, .iconst 1, 1), (37, .aload_n 0, 1), (38, .getfield 39, 3), (41, .iconst 5, 1)]) (S2 := (42, [some (.ref 16), z1, z2], [.int (5 : Int32), .ref 1, .int (1 : Int32), .ref 16], M1)) (by decide +kernel) (hO := mm_own_83) rfl ?_
  refine mm_R_call (v := mm_wl) h hA (k2 := 46) (as := [.ref 1, .int (5 : Int32)]) (r := [.int (1 : Int32), .ref 16]) rfl (fun _ => rfl) (fun q hq o ho => ms_46 (by omega) hq ho) (fun r2 M3 h => ?_)
  show mm_Runs L xs (d + 1) 83 (45, [some (.ref 16), z1, z2], [.long r2, .int (1 : Int32), .ref 16], M3) o
  refine mm_Runs.seq (l := [(45, .l2i, 1), (46, .iadd, 1), (47, .putfield 153, 3), (50, .aload_n 0, 1), (51, .getfield 153, 3), (54, .bipush 30, 2)]) (S2 := (56, [some (.ref 16), z1, z2], [.int (30 : Int32), .int ((1 : Int32) + r2.toInt32)], (mm_pi M3 16 9 ((1 : Int32) + r2.toInt32)))) (by decide +kernel) (hO := mm_own_83) rfl ?_
  refine mm_R_ile (t := 63) rfl rfl rfl (fun hc => ?_) (fun hc => ?_)
  · replace h := mm_ip hc h
    refine mm_Runs.seq (l := [(59, .iconst 1, 1), (60, .goto 4, 3)]) (S2 := (64, [some (.ref 16), z1, z2], [.int (1 : Int32)], (mm_pi M3 16 9 ((1 : Int32) + r2.toInt32)))) (by decide +kernel) (hO := mm_own_83) rfl ?_
    exact (ms_83_j64 hd h hA : mp_83_64 L xs (d + 1) (1 : Int32) (mm_pi M3 16 9 ((1 : Int32) + r2.toInt32)) o) z1 z2
  · replace h := mm_iq hc h
    refine mm_Runs.seq (l := [(63, .iconst 0, 1)]) (S2 := (64, [some (.ref 16), z1, z2], [.int (0 : Int32)], (mm_pi M3 16 9 ((1 : Int32) + r2.toInt32)))) (by decide +kernel) (hO := mm_own_83) rfl ?_
    exact (ms_83_j64 hd h hA : mp_83_64 L xs (d + 1) (0 : Int32) (mm_pi M3 16 9 ((1 : Int32) + r2.toInt32)) o) z1 z2
set_option maxRecDepth 8000 in
set_option maxHeartbeats 4000000 in
theorem ms_83 {L : Nat} {xs : Nat → Int32} {d : Nat} (hd : 9 ≤ d) {M : mm_M} {q : (Unit ⊕ Nat) × mm_M} {o : mm_E} (h : mf_83 M = some q) (hA : mm_A (mm_Kr mm_wv) q o) : mm_Runs L xs d 83 (0, mm_ent (mm_ml 83) [.ref 16], [], M) o := by
  unfold mf_83 at h
  obtain ⟨d, rfl⟩ := mm_d1 (n := 8) hd
  show mm_Runs L xs (d + 1) 83 (0, [some (.ref 16), none, none], [], M) o
  refine mm_Runs.seq (l := [(0, .aload_n 0, 1), (1, .sipush 257, 3), (4, .aload_n 0, 1), (5, .getfield 39, 3), (8, .iconst 5, 1)]) (S2 := (9, [some (.ref 16), none, none], [.int (5 : Int32), .ref 1, .int (257 : Int32), .ref 16], M)) (by decide +kernel) (hO := mm_own_83) rfl ?_
  refine mm_R_call (v := mm_wl) h hA (k2 := 46) (as := [.ref 1, .int (5 : Int32)]) (r := [.int (257 : Int32), .ref 16]) rfl (fun _ => rfl) (fun q hq o ho => ms_46 (by omega) hq ho) (fun r1 M2 h => ?_)
  show mm_Runs L xs (d + 1) 83 (12, [some (.ref 16), none, none], [.long r1, .int (257 : Int32), .ref 16], M2) o
  refine mm_Runs.seq (l := [(12, .l2i, 1), (13, .iadd, 1), (14, .putfield 150, 3), (17, .aload_n 0, 1), (18, .getfield 150, 3), (21, .sipush 286, 3)]) (S2 := (24, [some (.ref 16), none, none], [.int (286 : Int32), .int ((257 : Int32) + r1.toInt32)], (mm_pi M2 16 8 ((257 : Int32) + r1.toInt32)))) (by decide +kernel) (hO := mm_own_83) rfl ?_
  refine mm_R_ile (t := 31) rfl rfl rfl (fun hc => ?_) (fun hc => ?_)
  · replace h := mm_ip hc h
    refine mm_Runs.seq (l := [(27, .iconst 1, 1), (28, .goto 4, 3)]) (S2 := (32, [some (.ref 16), none, none], [.int (1 : Int32)], (mm_pi M2 16 8 ((257 : Int32) + r1.toInt32)))) (by decide +kernel) (hO := mm_own_83) rfl ?_
    exact (ms_83_j32 hd h hA : mp_83_32 L xs (d + 1) (1 : Int32) (mm_pi M2 16 8 ((257 : Int32) + r1.toInt32)) o) none none
  · replace h := mm_iq hc h
    refine mm_Runs.seq (l := [(31, .iconst 0, 1)]) (S2 := (32, [some (.ref 16), none, none], [.int (0 : Int32)], (mm_pi M2 16 8 ((257 : Int32) + r1.toInt32)))) (by decide +kernel) (hO := mm_own_83) rfl ?_
    exact (ms_83_j32 hd h hA : mp_83_32 L xs (d + 1) (0 : Int32) (mm_pi M2 16 8 ((257 : Int32) + r1.toInt32)) o) none none
-- 103: PlainPacks$Codes.take(LPlainPacks$Source;)I (depth 8)
theorem mm_own_103 : mm_own 103 = 7 := rfl
def mp_103_12 (L : Nat) (xs : Nat → Int32) (p : Nat) (n : Nat) (d : Nat) (s0 : Int32) (M : mm_M) (o : mm_E) : Prop := ∀ z2 z3 z4 z5 z6 : Option Value, mm_Runs L xs d 103 (12, [some (.ref p), some (.ref 1), z2, z3, z4, z5, z6], [.int s0], M) o
def mp_103_25 (L : Nat) (xs : Nat → Int32) (p : Nat) (n : Nat) (d : Nat) (v2 : Int32) (v3 : Int32) (v4 : Int32) (v5 : Int32) (M : mm_M) (o : mm_E) : Prop := ∀ z6 : Option Value, mm_Runs L xs d 103 (25, [some (.ref p), some (.ref 1), some (.int v2), some (.int v3), some (.int v4), some (.int v5), z6], [], M) o
def mp_103_67 (L : Nat) (xs : Nat → Int32) (p : Nat) (n : Nat) (d : Nat) (v4 : Int32) (v6 : Int32) (M : mm_M) (o : mm_E) : Prop := ∀ z1 z2 z3 z5 : Option Value, mm_Runs L xs d 103 (67, [some (.ref p), z1, z2, z3, some (.int v4), z5, some (.int v6)], [], M) o
def mp_103_78 (L : Nat) (xs : Nat → Int32) (p : Nat) (n : Nat) (d : Nat) (v2 : Int32) (v3 : Int32) (v4 : Int32) (v5 : Int32) (M : mm_M) (o : mm_E) : Prop := ∀ z6 : Option Value, mm_Runs L xs d 103 (78, [some (.ref p), some (.ref 1), some (.int v2), some (.int v3), some (.int v4), some (.int v5), z6], [], M) o
def mp_103_97 (L : Nat) (xs : Nat → Int32) (p : Nat) (n : Nat) (d : Nat) (v2 : Int32) (v3 : Int32) (v4 : Int32) (v5 : Int32) (s0 : Int32) (M : mm_M) (o : mm_E) : Prop := ∀ z6 : Option Value, mm_Runs L xs d 103 (97, [some (.ref p), some (.ref 1), some (.int v2), some (.int v3), some (.int v4), some (.int v5), z6], [.int s0], M) o
set_option maxRecDepth 8000 in
set_option maxHeartbeats 4000000 in
theorem ms_103_j97 {L : Nat} {xs : Nat → Int32} {p : Nat} {n : Nat} {d : Nat} (hC : mm_isC p n) (hd : 8 ≤ d) {v2 : Int32} {v3 : Int32} {v4 : Int32} {v5 : Int32} {s0 : Int32} {M : mm_M} {q : (((Int32 × Int32 × Int32 × Int32) ⊕ (Int32 × Int32)) ⊕ Nat) × mm_M} {o : mm_E} (h : mf_103_j97 p n v2 v3 v4 v5 s0 M = some q) (hA : mm_A (mm_K2 (fun s M o => mp_103_25 L xs p n (d) s.1 s.2.1 s.2.2.1 s.2.2.2 M o) (fun r M o => mp_103_67 L xs p n (d) r.1 r.2 M o)) q o) : mp_103_97 L xs p n d v2 v3 v4 v5 s0 M o := by
  unfold mf_103_j97 at h
  obtain ⟨d, rfl⟩ := mm_d1 (n := 7) hd
  intro z6
  show mm_Runs L xs (d + 1) 103 (97, [some (.ref p), some (.ref 1), some (.int v2), some (.int v3), some (.int v4), some (.int v5), z6], [.int s0], M) o
  refine mm_R_call (v := mm_wv) h hA (k2 := 27) (as := [.int s0]) (r := []) rfl (fun _ => rfl) (fun q hq o ho => ms_27 (by omega) hq ho) (fun _ M1 h => ?_)
  show mm_Runs L xs (d + 1) 103 (100, [some (.ref p), some (.ref 1), some (.int v2), some (.int v3), some (.int v4), some (.int v5), z6], [], M1) o
  refine mm_Runs.seq (l := [(100, .iload_n 3, 1), (101, .aload_n 0, 1)]) (S2 := (102, [some (.ref p), some (.ref 1), some (.int v2), some (.int v3), some (.int v4), some (.int v5), z6], [.ref p, .int v3], M1)) (by decide +kernel) (hO := mm_own_103) rfl ?_
  refine mm_R_getf (ci := 7) (j := 2) (f := .inl (p + 3)) rfl rfl (mm_isC_f2 hC) ?_
  show mm_Runs L xs (d + 1) 103 (105, [some (.ref p), some (.ref 1), some (.int v2), some (.int v3), some (.int v4), some (.int v5), z6], [.ref (p + 3), .int v3], M1) o
  refine mm_Runs.seq (l := [(105, .iload 5, 2)]) (S2 := (107, [some (.ref p), some (.ref 1), some (.int v2), some (.int v3), some (.int v4), some (.int v5), z6], [.int v5, .ref (p + 3), .int v3], M1)) (by decide +kernel) (hO := mm_own_103) rfl ?_
  obtain ⟨hb, h⟩ := mm_gd h
  refine mm_R_iald rfl (mm_isC_a3 hC) hb ?_
  refine mm_Runs.seq (l := [(108, .iadd, 1), (109, .istore_n 3, 1), (110, .iload 4, 2), (112, .aload_n 0, 1)]) (S2 := (113, [some (.ref p), some (.ref 1), some (.int v2), some (.int (v3 + (M1.1 (p + 3) v5.toNatClampNeg))), some (.int v4), some (.int v5), z6], [.ref p, .int v4], M1)) (by decide +kernel) (hO := mm_own_103) rfl ?_
  refine mm_R_getf (ci := 7) (j := 2) (f := .inl (p + 3)) rfl rfl (mm_isC_f2 hC) ?_
  show mm_Runs L xs (d + 1) 103 (116, [some (.ref p), some (.ref 1), some (.int v2), some (.int (v3 + (M1.1 (p + 3) v5.toNatClampNeg))), some (.int v4), some (.int v5), z6], [.ref (p + 3), .int v4], M1) o
  refine mm_Runs.seq (l := [(116, .iload 5, 2)]) (S2 := (118, [some (.ref p), some (.ref 1), some (.int v2), some (.int (v3 + (M1.1 (p + 3) v5.toNatClampNeg))), some (.int v4), some (.int v5), z6], [.int v5, .ref (p + 3), .int v4], M1)) (by decide +kernel) (hO := mm_own_103) rfl ?_
  obtain ⟨hb, h⟩ := mm_gd h
  refine mm_R_iald rfl (mm_isC_a3 hC) hb ?_
  refine mm_Runs.seq (l := [(119, .iadd, 1), (120, .istore 4, 2), (122, .iinc 5 1, 3), (125, .goto (-100), 3)]) (S2 := (25, [some (.ref p), some (.ref 1), some (.int v2), some (.int (v3 + (M1.1 (p + 3) v5.toNatClampNeg))), some (.int (v4 + (M1.1 (p + 3) v5.toNatClampNeg))), some (.int (v5 + (1 : Int32))), z6], [], M1)) (by decide +kernel) (hO := mm_own_103) rfl ?_
  cases h
  exact (show mp_103_25 L xs p n (d + 1) v2 (v3 + (M1.1 (p + 3) v5.toNatClampNeg)) (v4 + (M1.1 (p + 3) v5.toNatClampNeg)) (v5 + (1 : Int32)) M1 o from hA) z6
set_option maxRecDepth 8000 in
set_option maxHeartbeats 4000000 in
theorem ms_103_j78 {L : Nat} {xs : Nat → Int32} {p : Nat} {n : Nat} {d : Nat} (hC : mm_isC p n) (hd : 8 ≤ d) {v2 : Int32} {v3 : Int32} {v4 : Int32} {v5 : Int32} {M : mm_M} {q : (((Int32 × Int32 × Int32 × Int32) ⊕ (Int32 × Int32)) ⊕ Nat) × mm_M} {o : mm_E} (h : mf_103_j78 p n v2 v3 v4 v5 M = some q) (hA : mm_A (mm_K2 (fun s M o => mp_103_25 L xs p n (d) s.1 s.2.1 s.2.2.1 s.2.2.2 M o) (fun r M o => mp_103_67 L xs p n (d) r.1 r.2 M o)) q o) : mp_103_78 L xs p n d v2 v3 v4 v5 M o := by
  unfold mf_103_j78 at h
  obtain ⟨d, rfl⟩ := mm_d1 (n := 7) hd
  intro z6
  show mm_Runs L xs (d + 1) 103 (78, [some (.ref p), some (.ref 1), some (.int v2), some (.int v3), some (.int v4), some (.int v5), z6], [], M) o
  refine mm_Runs.seq (l := [(78, .iload_n 2, 1), (79, .bipush 20, 2), (81, .iload 5, 2), (83, .isub, 1), (84, .ishl, 1), (85, .aload_n 0, 1)]) (S2 := (86, [some (.ref p), some (.ref 1), some (.int v2), some (.int v3), some (.int v4), some (.int v5), z6], [.ref p, .int (mm_shl v2 ((20 : Int32) - v5))], M)) (by decide +kernel) (hO := mm_own_103) rfl ?_
  refine mm_R_getf (ci := 7) (j := 5) (f := .inr .int) rfl rfl (mm_isC_f5 hC) ?_
  show mm_Runs L xs (d + 1) 103 (89, [some (.ref p), some (.ref 1), some (.int v2), some (.int v3), some (.int v4), some (.int v5), z6], [.int (M.1 p 5), .int (mm_shl v2 ((20 : Int32) - v5))], M) o
  refine mm_R_ilt (t := 96) rfl rfl rfl (fun hc => ?_) (fun hc => ?_)
  · replace h := mm_ip hc h
    refine mm_Runs.seq (l := [(96, .iconst 0, 1)]) (S2 := (97, [some (.ref p), some (.ref 1), some (.int v2), some (.int v3), some (.int v4), some (.int v5), z6], [.int (0 : Int32)], M)) (by decide +kernel) (hO := mm_own_103) rfl ?_
    exact (ms_103_j97 hC hd h hA : mp_103_97 L xs p n (d + 1) v2 v3 v4 v5 (0 : Int32) M o) z6
  · replace h := mm_iq hc h
    refine mm_Runs.seq (l := [(92, .iconst 1, 1), (93, .goto 4, 3)]) (S2 := (97, [some (.ref p), some (.ref 1), some (.int v2), some (.int v3), some (.int v4), some (.int v5), z6], [.int (1 : Int32)], M)) (by decide +kernel) (hO := mm_own_103) rfl ?_
    exact (ms_103_j97 hC hd h hA : mp_103_97 L xs p n (d + 1) v2 v3 v4 v5 (1 : Int32) M o) z6
set_option maxRecDepth 8000 in
set_option maxHeartbeats 4000000 in
theorem ms_103_b25 {L : Nat} {xs : Nat → Int32} {p : Nat} {n : Nat} {d : Nat} (hC : mm_isC p n) (hd : 8 ≤ d) {v2 : Int32} {v3 : Int32} {v4 : Int32} {v5 : Int32} {M : mm_M} {q : (((Int32 × Int32 × Int32 × Int32) ⊕ (Int32 × Int32)) ⊕ Nat) × mm_M} {o : mm_E} (h : mf_103_b25 p n v2 v3 v4 v5 M = some q) (hA : mm_A (mm_K2 (fun s M o => mp_103_25 L xs p n (d) s.1 s.2.1 s.2.2.1 s.2.2.2 M o) (fun r M o => mp_103_67 L xs p n (d) r.1 r.2 M o)) q o) : mp_103_25 L xs p n d v2 v3 v4 v5 M o := by
  unfold mf_103_b25 at h
  obtain ⟨d, rfl⟩ := mm_d1 (n := 7) hd
  intro z6
  show mm_Runs L xs (d + 1) 103 (25, [some (.ref p), some (.ref 1), some (.int v2), some (.int v3), some (.int v4), some (.int v5), z6], [], M) o
  refine mm_Runs.seq (l := [(25, .iload 5, 2), (27, .bipush 20, 2)]) (S2 := (29, [some (.ref p), some (.ref 1), some (.int v2), some (.int v3), some (.int v4), some (.int v5), z6], [.int (20 : Int32), .int v5], M)) (by decide +kernel) (hO := mm_own_103) rfl ?_
  refine mm_R_igt (t := 128) rfl rfl rfl (fun hc => ?_) (fun hc => ?_)
  · replace h := mm_ip hc h
    cases h
    exact mm_R_thr rfl rfl rfl (by omega) hA
  · replace h := mm_iq hc h
    refine mm_Runs.seq (l := [(32, .iload_n 2, 1), (33, .iconst 1, 1), (34, .ishl, 1), (35, .aload_n 1, 1)]) (S2 := (36, [some (.ref p), some (.ref 1), some (.int v2), some (.int v3), some (.int v4), some (.int v5), z6], [.ref 1, .int (mm_shl v2 (1 : Int32))], M)) (by decide +kernel) (hO := mm_own_103) rfl ?_
    refine mm_R_call (v := mm_wi) h hA (k2 := 45) (as := [.ref 1]) (r := [.int (mm_shl v2 (1 : Int32))]) rfl (fun _ => rfl) (fun q hq o ho => ms_45 (by omega) hq ho) (fun r1 M2 h => ?_)
    show mm_Runs L xs (d + 1) 103 (39, [some (.ref p), some (.ref 1), some (.int v2), some (.int v3), some (.int v4), some (.int v5), z6], [.int r1, .int (mm_shl v2 (1 : Int32))], M2) o
    refine mm_Runs.seq (l := [(39, .ior, 1), (40, .istore_n 2, 1), (41, .iload_n 3, 1), (42, .iconst 1, 1), (43, .ishl, 1), (44, .istore_n 3, 1), (45, .iload_n 2, 1), (46, .iload_n 3, 1), (47, .isub, 1), (48, .istore 6, 2), (50, .iload 6, 2)]) (S2 := (52, [some (.ref p), some (.ref 1), some (.int ((mm_shl v2 (1 : Int32)) ||| r1)), some (.int (mm_shl v3 (1 : Int32))), some (.int v4), some (.int v5), some (.int (((mm_shl v2 (1 : Int32)) ||| r1) - (mm_shl v3 (1 : Int32))))], [.int (((mm_shl v2 (1 : Int32)) ||| r1) - (mm_shl v3 (1 : Int32)))], M2)) (by decide +kernel) (hO := mm_own_103) rfl ?_
    refine mm_R_zlt (t := 78) rfl rfl rfl (fun hc => ?_) (fun hc => ?_)
    · replace h := mm_ip hc h
      exact (ms_103_j78 hC hd h hA : mp_103_78 L xs p n (d + 1) ((mm_shl v2 (1 : Int32)) ||| r1) (mm_shl v3 (1 : Int32)) v4 v5 M2 o) (some (.int (((mm_shl v2 (1 : Int32)) ||| r1) - (mm_shl v3 (1 : Int32)))))
    · replace h := mm_iq hc h
      refine mm_Runs.seq (l := [(55, .iload 6, 2), (57, .aload_n 0, 1)]) (S2 := (58, [some (.ref p), some (.ref 1), some (.int ((mm_shl v2 (1 : Int32)) ||| r1)), some (.int (mm_shl v3 (1 : Int32))), some (.int v4), some (.int v5), some (.int (((mm_shl v2 (1 : Int32)) ||| r1) - (mm_shl v3 (1 : Int32))))], [.ref p, .int (((mm_shl v2 (1 : Int32)) ||| r1) - (mm_shl v3 (1 : Int32)))], M2)) (by decide +kernel) (hO := mm_own_103) rfl ?_
      refine mm_R_getf (ci := 7) (j := 2) (f := .inl (p + 3)) rfl rfl (mm_isC_f2 hC) ?_
      show mm_Runs L xs (d + 1) 103 (61, [some (.ref p), some (.ref 1), some (.int ((mm_shl v2 (1 : Int32)) ||| r1)), some (.int (mm_shl v3 (1 : Int32))), some (.int v4), some (.int v5), some (.int (((mm_shl v2 (1 : Int32)) ||| r1) - (mm_shl v3 (1 : Int32))))], [.ref (p + 3), .int (((mm_shl v2 (1 : Int32)) ||| r1) - (mm_shl v3 (1 : Int32)))], M2) o
      refine mm_Runs.seq (l := [(61, .iload 5, 2)]) (S2 := (63, [some (.ref p), some (.ref 1), some (.int ((mm_shl v2 (1 : Int32)) ||| r1)), some (.int (mm_shl v3 (1 : Int32))), some (.int v4), some (.int v5), some (.int (((mm_shl v2 (1 : Int32)) ||| r1) - (mm_shl v3 (1 : Int32))))], [.int v5, .ref (p + 3), .int (((mm_shl v2 (1 : Int32)) ||| r1) - (mm_shl v3 (1 : Int32)))], M2)) (by decide +kernel) (hO := mm_own_103) rfl ?_
      obtain ⟨hb, h⟩ := mm_gd h
      refine mm_R_iald rfl (mm_isC_a3 hC) hb ?_
      refine mm_R_ige (t := 78) rfl rfl rfl (fun hc => ?_) (fun hc => ?_)
      · replace h := mm_ip hc h
        cases h
        exact (show mp_103_67 L xs p n (d + 1) v4 (((mm_shl v2 (1 : Int32)) ||| r1) - (mm_shl v3 (1 : Int32))) M2 o from hA) (some (.ref 1)) (some (.int ((mm_shl v2 (1 : Int32)) ||| r1))) (some (.int (mm_shl v3 (1 : Int32)))) (some (.int v5))
      · replace h := mm_iq hc h
        exact (ms_103_j78 hC hd h hA : mp_103_78 L xs p n (d + 1) ((mm_shl v2 (1 : Int32)) ||| r1) (mm_shl v3 (1 : Int32)) v4 v5 M2 o) (some (.int (((mm_shl v2 (1 : Int32)) ||| r1) - (mm_shl v3 (1 : Int32)))))
theorem ms_103_L25 {L : Nat} {xs : Nat → Int32} {p : Nat} {n : Nat} {d : Nat} (hC : mm_isC p n) (hd : 8 ≤ d) {v2 : Int32} {v3 : Int32} {v4 : Int32} {v5 : Int32} {β : Type} {K : β → mm_M → mm_E → Prop} {F : (Int32 × Int32) → mm_M → mm_O β} {M : mm_M} {q : (β ⊕ Nat) × mm_M} {o : mm_E} (h : mm_B (mf_103_L25 p n (v2, v3, v4, v5) M) F = some q) (hA : mm_A K q o) (hx : ∀ (r : (Int32 × Int32)) (M2 : mm_M), F r M2 = some q → (fun r M o => mp_103_67 L xs p n (d) r.1 r.2 M o) r M2 o) : mp_103_25 L xs p n d v2 v3 v4 v5 M o := by
  unfold mf_103_L25 at h
  exact mm_R_loop (step := (fun s M => mf_103_b25 p n s.1 s.2.1 s.2.2.1 s.2.2.2 M)) (s := (v2, v3, v4, v5)) (M := M) (P := (fun s M o => mp_103_25 L xs p n (d) s.1 s.2.1 s.2.2.1 s.2.2.2 M o)) (X := (fun r M o => mp_103_67 L xs p n (d) r.1 r.2 M o)) h hA (fun s M q hq hA => ms_103_b25 hC (v2 := s.1) (v3 := s.2.1) (v4 := s.2.2.1) (v5 := s.2.2.2) (M := M) (q := q) hd hq hA) hx
set_option maxRecDepth 8000 in
set_option maxHeartbeats 4000000 in
theorem ms_103_j67 {L : Nat} {xs : Nat → Int32} {p : Nat} {n : Nat} {d : Nat} (hC : mm_isC p n) (hd : 8 ≤ d) {v4 : Int32} {v6 : Int32} {M : mm_M} {q : (Int32 ⊕ Nat) × mm_M} {o : mm_E} (h : mf_103_j67 p n v4 v6 M = some q) (hA : mm_A (mm_Kr mm_wi) q o) : mp_103_67 L xs p n d v4 v6 M o := by
  unfold mf_103_j67 at h
  obtain ⟨d, rfl⟩ := mm_d1 (n := 7) hd
  intro z1 z2 z3 z5
  show mm_Runs L xs (d + 1) 103 (67, [some (.ref p), z1, z2, z3, some (.int v4), z5, some (.int v6)], [], M) o
  refine mm_Runs.seq (l := [(67, .aload_n 0, 1)]) (S2 := (68, [some (.ref p), z1, z2, z3, some (.int v4), z5, some (.int v6)], [.ref p], M)) (by decide +kernel) (hO := mm_own_103) rfl ?_
  refine mm_R_getf (ci := 7) (j := 1) (f := .inl (p + 2)) rfl rfl (mm_isC_f1 hC) ?_
  show mm_Runs L xs (d + 1) 103 (71, [some (.ref p), z1, z2, z3, some (.int v4), z5, some (.int v6)], [.ref (p + 2)], M) o
  refine mm_Runs.seq (l := [(71, .iload 4, 2), (73, .iload 6, 2), (75, .iadd, 1)]) (S2 := (76, [some (.ref p), z1, z2, z3, some (.int v4), z5, some (.int v6)], [.int (v4 + v6), .ref (p + 2)], M)) (by decide +kernel) (hO := mm_own_103) rfl ?_
  obtain ⟨hb, h⟩ := mm_gd h
  refine mm_R_iald rfl (mm_isC_a2 hC) hb ?_
  cases h
  exact mm_R_reti rfl rfl hA
set_option maxRecDepth 8000 in
set_option maxHeartbeats 4000000 in
theorem ms_103_j12 {L : Nat} {xs : Nat → Int32} {p : Nat} {n : Nat} {d : Nat} (hC : mm_isC p n) (hd : 8 ≤ d) {s0 : Int32} {M : mm_M} {q : (Int32 ⊕ Nat) × mm_M} {o : mm_E} (h : mf_103_j12 p n s0 M = some q) (hA : mm_A (mm_Kr mm_wi) q o) : mp_103_12 L xs p n d s0 M o := by
  unfold mf_103_j12 at h
  obtain ⟨d, rfl⟩ := mm_d1 (n := 7) hd
  intro z2 z3 z4 z5 z6
  show mm_Runs L xs (d + 1) 103 (12, [some (.ref p), some (.ref 1), z2, z3, z4, z5, z6], [.int s0], M) o
  refine mm_R_call (v := mm_wv) h hA (k2 := 27) (as := [.int s0]) (r := []) rfl (fun _ => rfl) (fun q hq o ho => ms_27 (by omega) hq ho) (fun _ M1 h => ?_)
  show mm_Runs L xs (d + 1) 103 (15, [some (.ref p), some (.ref 1), z2, z3, z4, z5, z6], [], M1) o
  refine mm_Runs.seq (l := [(15, .iconst 0, 1), (16, .istore_n 2, 1), (17, .iconst 0, 1), (18, .istore_n 3, 1), (19, .iconst 0, 1), (20, .istore 4, 2), (22, .iconst 1, 1), (23, .istore 5, 2)]) (S2 := (25, [some (.ref p), some (.ref 1), some (.int (0 : Int32)), some (.int (0 : Int32)), some (.int (0 : Int32)), some (.int (1 : Int32)), z6], [], M1)) (by decide +kernel) (hO := mm_own_103) rfl ?_
  have hp : mp_103_25 L xs p n (d + 1) (0 : Int32) (0 : Int32) (0 : Int32) (1 : Int32) M1 o := by
    refine ms_103_L25 hC hd h hA (fun r3 M2 h => ?_)
    intro y4 y5 y6 y7
    show mm_Runs L xs (d + 1) 103 (67, [some (.ref p), y4, y5, y6, some (.int r3.1), y7, some (.int r3.2)], [], M2) o
    exact (ms_103_j67 hC hd h hA : mp_103_67 L xs p n (d + 1) r3.1 r3.2 M2 o) y4 y5 y6 y7
  exact hp z6
set_option maxRecDepth 8000 in
set_option maxHeartbeats 4000000 in
theorem ms_103 {L : Nat} {xs : Nat → Int32} {p : Nat} {n : Nat} {d : Nat} (hC : mm_isC p n) (hd : 8 ≤ d) {M : mm_M} {q : (Int32 ⊕ Nat) × mm_M} {o : mm_E} (h : mf_103 p n M = some q) (hA : mm_A (mm_Kr mm_wi) q o) : mm_Runs L xs d 103 (0, mm_ent (mm_ml 103) [.ref p, .ref 1], [], M) o := by
  unfold mf_103 at h
  obtain ⟨d, rfl⟩ := mm_d1 (n := 7) hd
  show mm_Runs L xs (d + 1) 103 (0, [some (.ref p), some (.ref 1), none, none, none, none, none], [], M) o
  refine mm_Runs.seq (l := [(0, .aload_n 0, 1)]) (S2 := (1, [some (.ref p), some (.ref 1), none, none, none, none, none], [.ref p], M)) (by decide +kernel) (hO := mm_own_103) rfl ?_
  refine mm_R_getf (ci := 7) (j := 4) (f := .inr .int) rfl rfl (mm_isC_f4 hC) ?_
  show mm_Runs L xs (d + 1) 103 (4, [some (.ref p), some (.ref 1), none, none, none, none, none], [.int (M.1 p 4)], M) o
  refine mm_R_zne (t := 11) rfl rfl rfl (fun hc => ?_) (fun hc => ?_)
  · replace h := mm_ip hc h
    refine mm_Runs.seq (l := [(7, .iconst 1, 1), (8, .goto 4, 3)]) (S2 := (12, [some (.ref p), some (.ref 1), none, none, none, none, none], [.int (1 : Int32)], M)) (by decide +kernel) (hO := mm_own_103) rfl ?_
    exact (ms_103_j12 hC hd h hA : mp_103_12 L xs p n (d + 1) (1 : Int32) M o) none none none none none
  · replace h := mm_iq hc h
    refine mm_Runs.seq (l := [(11, .iconst 0, 1)]) (S2 := (12, [some (.ref p), some (.ref 1), none, none, none, none, none], [.int (0 : Int32)], M)) (by decide +kernel) (hO := mm_own_103) rfl ?_
    exact (ms_103_j12 hC hd h hA : mp_103_12 L xs p n (d + 1) (0 : Int32) M o) none none none none none
-- 84: PlainPacks$Blocks.readRow()V (depth 9)
theorem mm_own_84 : mm_own 84 = 6 := rfl
def mp_84_12 (L : Nat) (xs : Nat → Int32) (d : Nat) (v1 : Int32) (v2 : Int32) (M : mm_M) (o : mm_E) : Prop := ∀ z3 z4 z5 z6 : Option Value, mm_Runs L xs d 84 (12, [some (.ref 16), some (.int v1), some (.int v2), z3, z4, z5, z6], [], M) o
def mp_84_178 (L : Nat) (xs : Nat → Int32) (d : Nat) (M : mm_M) (o : mm_E) : Prop := ∀ z0 z1 z2 z3 z4 z5 z6 : Option Value, mm_Runs L xs d 84 (178, [z0, z1, z2, z3, z4, z5, z6], [], M) o
def mp_84_40 (L : Nat) (xs : Nat → Int32) (d : Nat) (v1 : Int32) (v2 : Int32) (v3 : Int32) (s0 : Int32) (M : mm_M) (o : mm_E) : Prop := ∀ z4 z5 z6 : Option Value, mm_Runs L xs d 84 (40, [some (.ref 16), some (.int v1), some (.int v2), some (.int v3), z4, z5, z6], [.int s0], M) o
def mp_84_60 (L : Nat) (xs : Nat → Int32) (d : Nat) (v1 : Int32) (v2 : Int32) (s0 : Int32) (M : mm_M) (o : mm_E) : Prop := ∀ z3 z4 z5 z6 : Option Value, mm_Runs L xs d 84 (60, [some (.ref 16), some (.int v1), some (.int v2), z3, z4, z5, z6], [.int s0], M) o
def mp_84_132 (L : Nat) (xs : Nat → Int32) (d : Nat) (v1 : Int32) (v2 : Int32) (v4 : Int32) (v5 : Int32) (M : mm_M) (o : mm_E) : Prop := ∀ z3 z6 : Option Value, mm_Runs L xs d 84 (132, [some (.ref 16), some (.int v1), some (.int v2), z3, some (.int v4), some (.int v5), z6], [], M) o
def mp_84_145 (L : Nat) (xs : Nat → Int32) (d : Nat) (v1 : Int32) (v2 : Int32) (v4 : Int32) (v5 : Int32) (s0 : Int32) (M : mm_M) (o : mm_E) : Prop := ∀ z3 z6 : Option Value, mm_Runs L xs d 84 (145, [some (.ref 16), some (.int v1), some (.int v2), z3, some (.int v4), some (.int v5), z6], [.int s0], M) o
def mp_84_151 (L : Nat) (xs : Nat → Int32) (d : Nat) (v1 : Int32) (v2 : Int32) (v4 : Int32) (v5 : Int32) (v6 : Int32) (M : mm_M) (o : mm_E) : Prop := ∀ z3 : Option Value, mm_Runs L xs d 84 (151, [some (.ref 16), some (.int v1), some (.int v2), z3, some (.int v4), some (.int v5), some (.int v6)], [], M) o
def mp_84_175 (L : Nat) (xs : Nat → Int32) (d : Nat) (v1 : Int32) (v2 : Int32) (M : mm_M) (o : mm_E) : Prop := ∀ z3 z4 z5 z6 : Option Value, mm_Runs L xs d 84 (175, [some (.ref 16), some (.int v1), some (.int v2), z3, z4, z5, z6], [], M) o
set_option maxRecDepth 8000 in
set_option maxHeartbeats 4000000 in
theorem ms_84_b151 {L : Nat} {xs : Nat → Int32} {d : Nat} (hd : 9 ≤ d) {v1 : Int32} {v2 : Int32} {v4 : Int32} {v5 : Int32} {v6 : Int32} {M : mm_M} {q : (((Int32 × Int32) ⊕ (Int32)) ⊕ Nat) × mm_M} {o : mm_E} (h : mf_84_b151 v1 v2 v4 v5 v6 M = some q) (hA : mm_A (mm_K2 (fun s M o => mp_84_151 L xs (d) v1 s.1 v4 v5 s.2 M o) (fun r M o => mp_84_175 L xs (d) v1 r M o)) q o) : mp_84_151 L xs d v1 v2 v4 v5 v6 M o := by
  unfold mf_84_b151 at h
  obtain ⟨d, rfl⟩ := mm_d1 (n := 8) hd
  intro z3
  show mm_Runs L xs (d + 1) 84 (151, [some (.ref 16), some (.int v1), some (.int v2), z3, some (.int v4), some (.int v5), some (.int v6)], [], M) o
  refine mm_Runs.seq (l := [(151, .iload 6, 2), (153, .iload 5, 2)]) (S2 := (155, [some (.ref 16), some (.int v1), some (.int v2), z3, some (.int v4), some (.int v5), some (.int v6)], [.int v5, .int v6], M)) (by decide +kernel) (hO := mm_own_84) rfl ?_
  refine mm_R_ige (t := 175) rfl rfl rfl (fun hc => ?_) (fun hc => ?_)
  · replace h := mm_ip hc h
    refine mm_Runs.seq (l := [(158, .aload_n 0, 1), (159, .getfield 30, 3), (162, .iload_n 2, 1), (163, .iload 4, 2)]) (S2 := (165, [some (.ref 16), some (.int v1), some (.int v2), z3, some (.int v4), some (.int v5), some (.int v6)], [.int v4, .int v2, .ref 32], M)) (by decide +kernel) (hO := mm_own_84) rfl ?_
    obtain ⟨hb, h⟩ := mm_gd h
    refine mm_R_iast rfl rfl hb ?_
    refine mm_Runs.seq (l := [(166, .iinc 2 1, 3), (169, .iinc 6 1, 3), (172, .goto (-21), 3)]) (S2 := (151, [some (.ref 16), some (.int v1), some (.int (v2 + (1 : Int32))), z3, some (.int v4), some (.int v5), some (.int (v6 + (1 : Int32)))], [], (mm_pi M 32 v2.toNatClampNeg v4))) (by decide +kernel) (hO := mm_own_84) rfl ?_
    cases h
    exact (show mp_84_151 L xs (d + 1) v1 (v2 + (1 : Int32)) v4 v5 (v6 + (1 : Int32)) (mm_pi M 32 v2.toNatClampNeg v4) o from hA) z3
  · replace h := mm_iq hc h
    cases h
    exact (show mp_84_175 L xs (d + 1) v1 v2 M o from hA) z3 (some (.int v4)) (some (.int v5)) (some (.int v6))
theorem ms_84_L151 {L : Nat} {xs : Nat → Int32} {d : Nat} (hd : 9 ≤ d) {v1 : Int32} {v2 : Int32} {v4 : Int32} {v5 : Int32} {v6 : Int32} {β : Type} {K : β → mm_M → mm_E → Prop} {F : (Int32) → mm_M → mm_O β} {M : mm_M} {q : (β ⊕ Nat) × mm_M} {o : mm_E} (h : mm_B (mf_84_L151 v1 v4 v5 (v2, v6) M) F = some q) (hA : mm_A K q o) (hx : ∀ (r : (Int32)) (M2 : mm_M), F r M2 = some q → (fun r M o => mp_84_175 L xs (d) v1 r M o) r M2 o) : mp_84_151 L xs d v1 v2 v4 v5 v6 M o := by
  unfold mf_84_L151 at h
  exact mm_R_loop (step := (fun s M => mf_84_b151 v1 s.1 v4 v5 s.2 M)) (s := (v2, v6)) (M := M) (P := (fun s M o => mp_84_151 L xs (d) v1 s.1 v4 v5 s.2 M o)) (X := (fun r M o => mp_84_175 L xs (d) v1 r M o)) h hA (fun s M q hq hA => ms_84_b151 (v1 := v1) (v2 := s.1) (v4 := v4) (v5 := v5) (v6 := s.2) (M := M) (q := q) hd hq hA) hx
set_option maxRecDepth 8000 in
set_option maxHeartbeats 4000000 in
theorem ms_84_j145 {L : Nat} {xs : Nat → Int32} {d : Nat} (hd : 9 ≤ d) {v1 : Int32} {v2 : Int32} {v4 : Int32} {v5 : Int32} {s0 : Int32} {M : mm_M} {q : (((Int32) ⊕ (Unit)) ⊕ Nat) × mm_M} {o : mm_E} (h : mf_84_j145 v1 v2 v4 v5 s0 M = some q) (hA : mm_A (mm_K2 (fun s M o => mp_84_12 L xs (d) v1 s M o) (fun r M o => mp_84_178 L xs (d) M o)) q o) : mp_84_145 L xs d v1 v2 v4 v5 s0 M o := by
  unfold mf_84_j145 at h
  obtain ⟨d, rfl⟩ := mm_d1 (n := 8) hd
  intro z3 z6
  show mm_Runs L xs (d + 1) 84 (145, [some (.ref 16), some (.int v1), some (.int v2), z3, some (.int v4), some (.int v5), z6], [.int s0], M) o
  refine mm_R_call (v := mm_wv) h hA (k2 := 27) (as := [.int s0]) (r := []) rfl (fun _ => rfl) (fun q hq o ho => ms_27 (by omega) hq ho) (fun _ M1 h => ?_)
  show mm_Runs L xs (d + 1) 84 (148, [some (.ref 16), some (.int v1), some (.int v2), z3, some (.int v4), some (.int v5), z6], [], M1) o
  refine mm_Runs.seq (l := [(148, .iconst 0, 1), (149, .istore 6, 2)]) (S2 := (151, [some (.ref 16), some (.int v1), some (.int v2), z3, some (.int v4), some (.int v5), some (.int (0 : Int32))], [], M1)) (by decide +kernel) (hO := mm_own_84) rfl ?_
  have hp : mp_84_151 L xs (d + 1) v1 v2 v4 v5 (0 : Int32) M1 o := by
    refine ms_84_L151 hd h hA (fun r3 M2 h => ?_)
    intro y4 y5 y6 y7
    show mm_Runs L xs (d + 1) 84 (175, [some (.ref 16), some (.int v1), some (.int r3), y4, y5, y6, y7], [], M2) o
    refine mm_Runs.seq (l := [(175, .goto (-163), 3)]) (S2 := (12, [some (.ref 16), some (.int v1), some (.int r3), y4, y5, y6, y7], [], M2)) (by decide +kernel) (hO := mm_own_84) rfl ?_
    cases h
    exact (show mp_84_12 L xs (d + 1) v1 r3 M2 o from hA) y4 y5 y6 y7
  exact hp z3
set_option maxRecDepth 8000 in
set_option maxHeartbeats 4000000 in
theorem ms_84_j132 {L : Nat} {xs : Nat → Int32} {d : Nat} (hd : 9 ≤ d) {v1 : Int32} {v2 : Int32} {v4 : Int32} {v5 : Int32} {M : mm_M} {q : (((Int32) ⊕ (Unit)) ⊕ Nat) × mm_M} {o : mm_E} (h : mf_84_j132 v1 v2 v4 v5 M = some q) (hA : mm_A (mm_K2 (fun s M o => mp_84_12 L xs (d) v1 s M o) (fun r M o => mp_84_178 L xs (d) M o)) q o) : mp_84_132 L xs d v1 v2 v4 v5 M o := by
  unfold mf_84_j132 at h
  obtain ⟨d, rfl⟩ := mm_d1 (n := 8) hd
  intro z3 z6
  show mm_Runs L xs (d + 1) 84 (132, [some (.ref 16), some (.int v1), some (.int v2), z3, some (.int v4), some (.int v5), z6], [], M) o
  refine mm_Runs.seq (l := [(132, .iload_n 2, 1), (133, .iload 5, 2), (135, .iadd, 1), (136, .iload_n 1, 1)]) (S2 := (137, [some (.ref 16), some (.int v1), some (.int v2), z3, some (.int v4), some (.int v5), z6], [.int v1, .int (v2 + v5)], M)) (by decide +kernel) (hO := mm_own_84) rfl ?_
  refine mm_R_ile (t := 144) rfl rfl rfl (fun hc => ?_) (fun hc => ?_)
  · replace h := mm_ip hc h
    refine mm_Runs.seq (l := [(140, .iconst 1, 1), (141, .goto 4, 3)]) (S2 := (145, [some (.ref 16), some (.int v1), some (.int v2), z3, some (.int v4), some (.int v5), z6], [.int (1 : Int32)], M)) (by decide +kernel) (hO := mm_own_84) rfl ?_
    exact (ms_84_j145 hd h hA : mp_84_145 L xs (d + 1) v1 v2 v4 v5 (1 : Int32) M o) z3 z6
  · replace h := mm_iq hc h
    refine mm_Runs.seq (l := [(144, .iconst 0, 1)]) (S2 := (145, [some (.ref 16), some (.int v1), some (.int v2), z3, some (.int v4), some (.int v5), z6], [.int (0 : Int32)], M)) (by decide +kernel) (hO := mm_own_84) rfl ?_
    exact (ms_84_j145 hd h hA : mp_84_145 L xs (d + 1) v1 v2 v4 v5 (0 : Int32) M o) z3 z6
set_option maxRecDepth 8000 in
set_option maxHeartbeats 4000000 in
theorem ms_84_j60 {L : Nat} {xs : Nat → Int32} {d : Nat} (hd : 9 ≤ d) {v1 : Int32} {v2 : Int32} {s0 : Int32} {M : mm_M} {q : (((Int32) ⊕ (Unit)) ⊕ Nat) × mm_M} {o : mm_E} (h : mf_84_j60 v1 v2 s0 M = some q) (hA : mm_A (mm_K2 (fun s M o => mp_84_12 L xs (d) v1 s M o) (fun r M o => mp_84_178 L xs (d) M o)) q o) : mp_84_60 L xs d v1 v2 s0 M o := by
  unfold mf_84_j60 at h
  obtain ⟨d, rfl⟩ := mm_d1 (n := 8) hd
  intro z3 z4 z5 z6
  show mm_Runs L xs (d + 1) 84 (60, [some (.ref 16), some (.int v1), some (.int v2), z3, z4, z5, z6], [.int s0], M) o
  refine mm_R_call (v := mm_wv) h hA (k2 := 27) (as := [.int s0]) (r := []) rfl (fun _ => rfl) (fun q hq o ho => ms_27 (by omega) hq ho) (fun _ M1 h => ?_)
  show mm_Runs L xs (d + 1) 84 (63, [some (.ref 16), some (.int v1), some (.int v2), z3, z4, z5, z6], [], M1) o
  refine mm_Runs.seq (l := [(63, .aload_n 0, 1), (64, .getfield 30, 3), (67, .iload_n 2, 1), (68, .iconst 1, 1), (69, .isub, 1)]) (S2 := (70, [some (.ref 16), some (.int v1), some (.int v2), z3, z4, z5, z6], [.int (v2 - (1 : Int32)), .ref 32], M1)) (by decide +kernel) (hO := mm_own_84) rfl ?_
  obtain ⟨hb, h⟩ := mm_gd h
  refine mm_R_iald rfl rfl hb ?_
  refine mm_Runs.seq (l := [(71, .istore 4, 2), (73, .iconst 3, 1), (74, .aload_n 0, 1), (75, .getfield 39, 3), (78, .iconst 2, 1)]) (S2 := (79, [some (.ref 16), some (.int v1), some (.int v2), (mm_no2 z3), some (.int (M1.1 32 (v2 - (1 : Int32)).toNatClampNeg)), z5, z6], [.int (2 : Int32), .ref 1, .int (3 : Int32)], M1)) (by decide +kernel) (hO := mm_own_84) rfl ?_
  refine mm_R_call (v := mm_wl) h hA (k2 := 46) (as := [.ref 1, .int (2 : Int32)]) (r := [.int (3 : Int32)]) rfl (fun _ => rfl) (fun q hq o ho => ms_46 (by omega) hq ho) (fun r2 M3 h => ?_)
  show mm_Runs L xs (d + 1) 84 (82, [some (.ref 16), some (.int v1), some (.int v2), (mm_no2 z3), some (.int (M1.1 32 (v2 - (1 : Int32)).toNatClampNeg)), z5, z6], [.long r2, .int (3 : Int32)], M3) o
  refine mm_Runs.seq (l := [(82, .l2i, 1), (83, .iadd, 1), (84, .istore 5, 2), (86, .goto 46, 3)]) (S2 := (132, [some (.ref 16), some (.int v1), some (.int v2), (mm_no2 z3), some (.int (M1.1 32 (v2 - (1 : Int32)).toNatClampNeg)), some (.int ((3 : Int32) + r2.toInt32)), z6], [], M3)) (by decide +kernel) (hO := mm_own_84) rfl ?_
  exact (ms_84_j132 hd h hA : mp_84_132 L xs (d + 1) v1 v2 (M1.1 32 (v2 - (1 : Int32)).toNatClampNeg) ((3 : Int32) + r2.toInt32) M3 o) ((mm_no2 z3)) z6
set_option maxRecDepth 8000 in
set_option maxHeartbeats 4000000 in
theorem ms_84_j40 {L : Nat} {xs : Nat → Int32} {d : Nat} (hd : 9 ≤ d) {v1 : Int32} {v2 : Int32} {v3 : Int32} {s0 : Int32} {M : mm_M} {q : (((Int32) ⊕ (Unit)) ⊕ Nat) × mm_M} {o : mm_E} (h : mf_84_j40 v1 v2 v3 s0 M = some q) (hA : mm_A (mm_K2 (fun s M o => mp_84_12 L xs (d) v1 s M o) (fun r M o => mp_84_178 L xs (d) M o)) q o) : mp_84_40 L xs d v1 v2 v3 s0 M o := by
  unfold mf_84_j40 at h
  obtain ⟨d, rfl⟩ := mm_d1 (n := 8) hd
  intro z4 z5 z6
  show mm_Runs L xs (d + 1) 84 (40, [some (.ref 16), some (.int v1), some (.int v2), some (.int v3), z4, z5, z6], [.int s0], M) o
  refine mm_Runs.seq (l := [(40, .istore 4, 2), (42, .iconst 1, 1), (43, .istore 5, 2), (45, .iload_n 3, 1), (46, .bipush 16, 2)]) (S2 := (48, [some (.ref 16), some (.int v1), some (.int v2), some (.int v3), some (.int s0), some (.int (1 : Int32)), z6], [.int (16 : Int32), .int v3], M)) (by decide +kernel) (hO := mm_own_84) rfl ?_
  refine mm_R_ine (t := 89) rfl rfl rfl (fun hc => ?_) (fun hc => ?_)
  · replace h := mm_ip hc h
    refine mm_Runs.seq (l := [(51, .iload_n 2, 1)]) (S2 := (52, [some (.ref 16), some (.int v1), some (.int v2), some (.int v3), some (.int s0), some (.int (1 : Int32)), z6], [.int v2], M)) (by decide +kernel) (hO := mm_own_84) rfl ?_
    refine mm_R_zne (t := 59) rfl rfl rfl (fun hc => ?_) (fun hc => ?_)
    · replace h := mm_ip hc h
      refine mm_Runs.seq (l := [(55, .iconst 1, 1), (56, .goto 4, 3)]) (S2 := (60, [some (.ref 16), some (.int v1), some (.int v2), some (.int v3), some (.int s0), some (.int (1 : Int32)), z6], [.int (1 : Int32)], M)) (by decide +kernel) (hO := mm_own_84) rfl ?_
      exact (ms_84_j60 hd h hA : mp_84_60 L xs (d + 1) v1 v2 (1 : Int32) M o) (some (.int v3)) (some (.int s0)) (some (.int (1 : Int32))) z6
    · replace h := mm_iq hc h
      refine mm_Runs.seq (l := [(59, .iconst 0, 1)]) (S2 := (60, [some (.ref 16), some (.int v1), some (.int v2), some (.int v3), some (.int s0), some (.int (1 : Int32)), z6], [.int (0 : Int32)], M)) (by decide +kernel) (hO := mm_own_84) rfl ?_
      exact (ms_84_j60 hd h hA : mp_84_60 L xs (d + 1) v1 v2 (0 : Int32) M o) (some (.int v3)) (some (.int s0)) (some (.int (1 : Int32))) z6
  · replace h := mm_iq hc h
    refine mm_Runs.seq (l := [(89, .iload_n 3, 1), (90, .bipush 17, 2)]) (S2 := (92, [some (.ref 16), some (.int v1), some (.int v2), some (.int v3), some (.int s0), some (.int (1 : Int32)), z6], [.int (17 : Int32), .int v3], M)) (by decide +kernel) (hO := mm_own_84) rfl ?_
    refine mm_R_ine (t := 111) rfl rfl rfl (fun hc => ?_) (fun hc => ?_)
    · replace h := mm_ip hc h
      refine mm_Runs.seq (l := [(95, .iconst 3, 1), (96, .aload_n 0, 1), (97, .getfield 39, 3), (100, .iconst 3, 1)]) (S2 := (101, [some (.ref 16), some (.int v1), some (.int v2), some (.int v3), some (.int s0), some (.int (1 : Int32)), z6], [.int (3 : Int32), .ref 1, .int (3 : Int32)], M)) (by decide +kernel) (hO := mm_own_84) rfl ?_
      refine mm_R_call (v := mm_wl) h hA (k2 := 46) (as := [.ref 1, .int (3 : Int32)]) (r := [.int (3 : Int32)]) rfl (fun _ => rfl) (fun q hq o ho => ms_46 (by omega) hq ho) (fun r1 M2 h => ?_)
      show mm_Runs L xs (d + 1) 84 (104, [some (.ref 16), some (.int v1), some (.int v2), some (.int v3), some (.int s0), some (.int (1 : Int32)), z6], [.long r1, .int (3 : Int32)], M2) o
      refine mm_Runs.seq (l := [(104, .l2i, 1), (105, .iadd, 1), (106, .istore 5, 2), (108, .goto 24, 3)]) (S2 := (132, [some (.ref 16), some (.int v1), some (.int v2), some (.int v3), some (.int s0), some (.int ((3 : Int32) + r1.toInt32)), z6], [], M2)) (by decide +kernel) (hO := mm_own_84) rfl ?_
      exact (ms_84_j132 hd h hA : mp_84_132 L xs (d + 1) v1 v2 s0 ((3 : Int32) + r1.toInt32) M2 o) (some (.int v3)) z6
    · replace h := mm_iq hc h
      refine mm_Runs.seq (l := [(111, .iload_n 3, 1), (112, .bipush 18, 2)]) (S2 := (114, [some (.ref 16), some (.int v1), some (.int v2), some (.int v3), some (.int s0), some (.int (1 : Int32)), z6], [.int (18 : Int32), .int v3], M)) (by decide +kernel) (hO := mm_own_84) rfl ?_
      refine mm_R_ine (t := 132) rfl rfl rfl (fun hc => ?_) (fun hc => ?_)
      · replace h := mm_ip hc h
        refine mm_Runs.seq (l := [(117, .bipush 11, 2), (119, .aload_n 0, 1), (120, .getfield 39, 3), (123, .bipush 7, 2)]) (S2 := (125, [some (.ref 16), some (.int v1), some (.int v2), some (.int v3), some (.int s0), some (.int (1 : Int32)), z6], [.int (7 : Int32), .ref 1, .int (11 : Int32)], M)) (by decide +kernel) (hO := mm_own_84) rfl ?_
        refine mm_R_call (v := mm_wl) h hA (k2 := 46) (as := [.ref 1, .int (7 : Int32)]) (r := [.int (11 : Int32)]) rfl (fun _ => rfl) (fun q hq o ho => ms_46 (by omega) hq ho) (fun r3 M4 h => ?_)
        show mm_Runs L xs (d + 1) 84 (128, [some (.ref 16), some (.int v1), some (.int v2), some (.int v3), some (.int s0), some (.int (1 : Int32)), z6], [.long r3, .int (11 : Int32)], M4) o
        refine mm_Runs.seq (l := [(128, .l2i, 1), (129, .iadd, 1), (130, .istore 5, 2)]) (S2 := (132, [some (.ref 16), some (.int v1), some (.int v2), some (.int v3), some (.int s0), some (.int ((11 : Int32) + r3.toInt32)), z6], [], M4)) (by decide +kernel) (hO := mm_own_84) rfl ?_
        exact (ms_84_j132 hd h hA : mp_84_132 L xs (d + 1) v1 v2 s0 ((11 : Int32) + r3.toInt32) M4 o) (some (.int v3)) z6
      · replace h := mm_iq hc h
        exact (ms_84_j132 hd h hA : mp_84_132 L xs (d + 1) v1 v2 s0 (1 : Int32) M o) (some (.int v3)) z6
set_option maxRecDepth 8000 in
set_option maxHeartbeats 4000000 in
theorem ms_84_b12 {L : Nat} {xs : Nat → Int32} {d : Nat} (hd : 9 ≤ d) {v1 : Int32} {v2 : Int32} {M : mm_M} {q : (((Int32) ⊕ (Unit)) ⊕ Nat) × mm_M} {o : mm_E} (h : mf_84_b12 v1 v2 M = some q) (hA : mm_A (mm_K2 (fun s M o => mp_84_12 L xs (d) v1 s M o) (fun r M o => mp_84_178 L xs (d) M o)) q o) : mp_84_12 L xs d v1 v2 M o := by
  unfold mf_84_b12 at h
  obtain ⟨d, rfl⟩ := mm_d1 (n := 8) hd
  intro z3 z4 z5 z6
  show mm_Runs L xs (d + 1) 84 (12, [some (.ref 16), some (.int v1), some (.int v2), z3, z4, z5, z6], [], M) o
  refine mm_Runs.seq (l := [(12, .iload_n 2, 1), (13, .iload_n 1, 1)]) (S2 := (14, [some (.ref 16), some (.int v1), some (.int v2), z3, z4, z5, z6], [.int v1, .int v2], M)) (by decide +kernel) (hO := mm_own_84) rfl ?_
  refine mm_R_ige (t := 178) rfl rfl rfl (fun hc => ?_) (fun hc => ?_)
  · replace h := mm_ip hc h
    refine mm_Runs.seq (l := [(17, .aload_n 0, 1), (18, .getfield 27, 3), (21, .aload_n 0, 1), (22, .getfield 39, 3)]) (S2 := (25, [some (.ref 16), some (.int v1), some (.int v2), z3, z4, z5, z6], [.ref 1, .ref 27], M)) (by decide +kernel) (hO := mm_own_84) rfl ?_
    refine mm_R_call (v := mm_wi) h hA (k2 := 103) (as := [.ref 27, .ref 1]) (r := []) rfl (fun _ => rfl) (fun q hq o ho => ms_103 ⟨rfl, rfl, rfl, rfl, rfl⟩ (by omega) hq ho) (fun r1 M2 h => ?_)
    show mm_Runs L xs (d + 1) 84 (28, [some (.ref 16), some (.int v1), some (.int v2), z3, z4, z5, z6], [.int r1], M2) o
    refine mm_Runs.seq (l := [(28, .istore_n 3, 1), (29, .iload_n 3, 1), (30, .bipush 16, 2)]) (S2 := (32, [some (.ref 16), some (.int v1), some (.int v2), some (.int r1), z4, z5, z6], [.int (16 : Int32), .int r1], M2)) (by decide +kernel) (hO := mm_own_84) rfl ?_
    refine mm_R_ige (t := 39) rfl rfl rfl (fun hc => ?_) (fun hc => ?_)
    · replace h := mm_ip hc h
      refine mm_Runs.seq (l := [(35, .iload_n 3, 1), (36, .goto 4, 3)]) (S2 := (40, [some (.ref 16), some (.int v1), some (.int v2), some (.int r1), z4, z5, z6], [.int r1], M2)) (by decide +kernel) (hO := mm_own_84) rfl ?_
      exact (ms_84_j40 hd h hA : mp_84_40 L xs (d + 1) v1 v2 r1 r1 M2 o) z4 z5 z6
    · replace h := mm_iq hc h
      refine mm_Runs.seq (l := [(39, .iconst 0, 1)]) (S2 := (40, [some (.ref 16), some (.int v1), some (.int v2), some (.int r1), z4, z5, z6], [.int (0 : Int32)], M2)) (by decide +kernel) (hO := mm_own_84) rfl ?_
      exact (ms_84_j40 hd h hA : mp_84_40 L xs (d + 1) v1 v2 r1 (0 : Int32) M2 o) z4 z5 z6
  · replace h := mm_iq hc h
    cases h
    exact (show mp_84_178 L xs (d + 1) M o from hA) (some (.ref 16)) (some (.int v1)) (some (.int v2)) z3 z4 z5 z6
theorem ms_84_L12 {L : Nat} {xs : Nat → Int32} {d : Nat} (hd : 9 ≤ d) {v1 : Int32} {v2 : Int32} {β : Type} {K : β → mm_M → mm_E → Prop} {F : (Unit) → mm_M → mm_O β} {M : mm_M} {q : (β ⊕ Nat) × mm_M} {o : mm_E} (h : mm_B (mf_84_L12 v1 v2 M) F = some q) (hA : mm_A K q o) (hx : ∀ (r : (Unit)) (M2 : mm_M), F r M2 = some q → (fun r M o => mp_84_178 L xs (d) M o) r M2 o) : mp_84_12 L xs d v1 v2 M o := by
  unfold mf_84_L12 at h
  exact mm_R_loop (step := (fun s M => mf_84_b12 v1 s M)) (s := v2) (M := M) (P := (fun s M o => mp_84_12 L xs (d) v1 s M o)) (X := (fun r M o => mp_84_178 L xs (d) M o)) h hA (fun s M q hq hA => ms_84_b12 (v1 := v1) (v2 := s) (M := M) (q := q) hd hq hA) hx
set_option maxRecDepth 8000 in
set_option maxHeartbeats 4000000 in
theorem ms_84 {L : Nat} {xs : Nat → Int32} {d : Nat} (hd : 9 ≤ d) {M : mm_M} {q : (Unit ⊕ Nat) × mm_M} {o : mm_E} (h : mf_84 M = some q) (hA : mm_A (mm_Kr mm_wv) q o) : mm_Runs L xs d 84 (0, mm_ent (mm_ml 84) [.ref 16], [], M) o := by
  unfold mf_84 at h
  obtain ⟨d, rfl⟩ := mm_d1 (n := 8) hd
  show mm_Runs L xs (d + 1) 84 (0, [some (.ref 16), none, none, none, none, none, none], [], M) o
  refine mm_Runs.seq (l := [(0, .aload_n 0, 1), (1, .getfield 150, 3), (4, .aload_n 0, 1), (5, .getfield 153, 3), (8, .iadd, 1), (9, .istore_n 1, 1), (10, .iconst 0, 1), (11, .istore_n 2, 1)]) (S2 := (12, [some (.ref 16), some (.int ((M.1 16 8) + (M.1 16 9))), some (.int (0 : Int32)), none, none, none, none], [], M)) (by decide +kernel) (hO := mm_own_84) rfl ?_
  have hp : mp_84_12 L xs (d + 1) ((M.1 16 8) + (M.1 16 9)) (0 : Int32) M o := by
    refine ms_84_L12 hd h hA (fun r2 M1 h => ?_)
    intro y3 y4 y5 y6 y7 y8 y9
    show mm_Runs L xs (d + 1) 84 (178, [y3, y4, y5, y6, y7, y8, y9], [], M1) o
    cases h
    exact mm_R_retv rfl rfl hA
  exact hp none none none none
