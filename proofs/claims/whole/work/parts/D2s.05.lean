/-! MEANINGS ARE SOUND 5 -/
-- 30: PlainPacks.adlerOf([III)I (depth 0)
theorem mm_own_30 : mm_own 30 = 0 := rfl
def mp_30_8 (L : Nat) (xs : Nat → Int32) (p : Nat) (n : Nat) (d : Nat) (v2 : Int32) (v3 : Int32) (v4 : Int32) (v5 : Int32) (M : mm_M) (o : mm_E) : Prop := ∀ z1 : Option Value, mm_Runs L xs d 30 (8, [some (.ref p), z1, some (.int v2), some (.int v3), some (.int v4), some (.int v5)], [], M) o
def mp_30_41 (L : Nat) (xs : Nat → Int32) (p : Nat) (n : Nat) (d : Nat) (v3 : Int32) (v4 : Int32) (M : mm_M) (o : mm_E) : Prop := ∀ z0 z1 z2 z5 : Option Value, mm_Runs L xs d 30 (41, [z0, z1, z2, some (.int v3), some (.int v4), z5], [], M) o
set_option maxRecDepth 8000 in
set_option maxHeartbeats 4000000 in
theorem ms_30_b8 {L : Nat} {xs : Nat → Int32} {p : Nat} {n : Nat} {d : Nat} (ha : mm_aat 0 p = some n) (hd : 0 ≤ d) {v2 : Int32} {v3 : Int32} {v4 : Int32} {v5 : Int32} {M : mm_M} {q : (((Int32 × Int32 × Int32) ⊕ (Int32 × Int32)) ⊕ Nat) × mm_M} {o : mm_E} (h : mf_30_b8 p n v2 v3 v4 v5 M = some q) (hA : mm_A (mm_K2 (fun s M o => mp_30_8 L xs p n (d) v2 s.1 s.2.1 s.2.2 M o) (fun r M o => mp_30_41 L xs p n (d) r.1 r.2 M o)) q o) : mp_30_8 L xs p n d v2 v3 v4 v5 M o := by
  unfold mf_30_b8 at h
  intro z1
  show mm_Runs L xs (d) 30 (8, [some (.ref p), z1, some (.int v2), some (.int v3), some (.int v4), some (.int v5)], [], M) o
  refine mm_Runs.seq (l := [(8, .iload 5, 2), (10, .iload_n 2, 1)]) (S2 := (11, [some (.ref p), z1, some (.int v2), some (.int v3), some (.int v4), some (.int v5)], [.int v2, .int v5], M)) (by decide +kernel) (hO := mm_own_30) rfl ?_
  refine mm_R_ige (t := 41) rfl rfl rfl (fun hc => ?_) (fun hc => ?_)
  · replace h := mm_ip hc h
    refine mm_Runs.seq (l := [(14, .iload_n 3, 1), (15, .aload_n 0, 1), (16, .iload 5, 2)]) (S2 := (18, [some (.ref p), z1, some (.int v2), some (.int v3), some (.int v4), some (.int v5)], [.int v5, .ref p, .int v3], M)) (by decide +kernel) (hO := mm_own_30) rfl ?_
    obtain ⟨hb, h⟩ := mm_gd h
    refine mm_R_iald rfl ha hb ?_
    refine mm_Runs.seq (l := [(19, .iadd, 1), (20, .ldc_w 284, 3), (23, .irem, 1), (24, .istore_n 3, 1), (25, .iload 4, 2), (27, .iload_n 3, 1), (28, .iadd, 1), (29, .ldc_w 284, 3), (32, .irem, 1), (33, .istore 4, 2), (35, .iinc 5 1, 3), (38, .goto (-30), 3)]) (S2 := (8, [some (.ref p), z1, some (.int v2), some (.int (mm_rem (v3 + (M.1 p v5.toNatClampNeg)) (65521 : Int32))), some (.int (mm_rem (v4 + (mm_rem (v3 + (M.1 p v5.toNatClampNeg)) (65521 : Int32))) (65521 : Int32))), some (.int (v5 + (1 : Int32)))], [], M)) (by decide +kernel) (hO := mm_own_30) rfl ?_
    cases h
    exact (show mp_30_8 L xs p n (d) v2 (mm_rem (v3 + (M.1 p v5.toNatClampNeg)) (65521 : Int32)) (mm_rem (v4 + (mm_rem (v3 + (M.1 p v5.toNatClampNeg)) (65521 : Int32))) (65521 : Int32)) (v5 + (1 : Int32)) M o from hA) z1
  · replace h := mm_iq hc h
    cases h
    exact (show mp_30_41 L xs p n (d) v3 v4 M o from hA) (some (.ref p)) z1 (some (.int v2)) (some (.int v5))
theorem ms_30_L8 {L : Nat} {xs : Nat → Int32} {p : Nat} {n : Nat} {d : Nat} (ha : mm_aat 0 p = some n) (hd : 0 ≤ d) {v2 : Int32} {v3 : Int32} {v4 : Int32} {v5 : Int32} {β : Type} {K : β → mm_M → mm_E → Prop} {F : (Int32 × Int32) → mm_M → mm_O β} {M : mm_M} {q : (β ⊕ Nat) × mm_M} {o : mm_E} (h : mm_B (mf_30_L8 p n v2 (v3, v4, v5) M) F = some q) (hA : mm_A K q o) (hx : ∀ (r : (Int32 × Int32)) (M2 : mm_M), F r M2 = some q → (fun r M o => mp_30_41 L xs p n (d) r.1 r.2 M o) r M2 o) : mp_30_8 L xs p n d v2 v3 v4 v5 M o := by
  unfold mf_30_L8 at h
  exact mm_R_loop (step := (fun s M => mf_30_b8 p n v2 s.1 s.2.1 s.2.2 M)) (s := (v3, v4, v5)) (M := M) (P := (fun s M o => mp_30_8 L xs p n (d) v2 s.1 s.2.1 s.2.2 M o)) (X := (fun r M o => mp_30_41 L xs p n (d) r.1 r.2 M o)) h hA (fun s M q hq hA => ms_30_b8 ha (v2 := v2) (v3 := s.1) (v4 := s.2.1) (v5 := s.2.2) (M := M) (q := q) hd hq hA) hx
set_option maxRecDepth 8000 in
set_option maxHeartbeats 4000000 in
theorem ms_30 {L : Nat} {xs : Nat → Int32} {p : Nat} {n : Nat} {d : Nat} (ha : mm_aat 0 p = some n) (hd : 0 ≤ d) {v1 : Int32} {v2 : Int32} {M : mm_M} {q : (Int32 ⊕ Nat) × mm_M} {o : mm_E} (h : mf_30 p n v1 v2 M = some q) (hA : mm_A (mm_Kr mm_wi) q o) : mm_Runs L xs d 30 (0, mm_ent (mm_ml 30) [.ref p, .int v1, .int v2], [], M) o := by
  unfold mf_30 at h
  show mm_Runs L xs (d) 30 (0, [some (.ref p), some (.int v1), some (.int v2), none, none, none], [], M) o
  refine mm_Runs.seq (l := [(0, .iconst 1, 1), (1, .istore_n 3, 1), (2, .iconst 0, 1), (3, .istore 4, 2), (5, .iload_n 1, 1), (6, .istore 5, 2)]) (S2 := (8, [some (.ref p), some (.int v1), some (.int v2), some (.int (1 : Int32)), some (.int (0 : Int32)), some (.int v1)], [], M)) (by decide +kernel) (hO := mm_own_30) rfl ?_
  have hp : mp_30_8 L xs p n (d) v2 (1 : Int32) (0 : Int32) v1 M o := by
    refine ms_30_L8 ha hd h hA (fun r2 M1 h => ?_)
    intro y3 y4 y5 y6
    show mm_Runs L xs (d) 30 (41, [y3, y4, y5, some (.int r2.1), some (.int r2.2), y6], [], M1) o
    refine mm_Runs.seq (l := [(41, .iload 4, 2), (43, .ldc_w 285, 3), (46, .imul, 1), (47, .iload_n 3, 1), (48, .iadd, 1)]) (S2 := (49, [y3, y4, y5, some (.int r2.1), some (.int r2.2), y6], [.int ((r2.2 * (65536 : Int32)) + r2.1)], M1)) (by decide +kernel) (hO := mm_own_30) rfl ?_
    cases h
    exact mm_R_reti rfl rfl hA
  exact hp (some (.int v1))
-- 75: PlainPacks$Blocks.readWrapped()V (depth 12)
theorem mm_own_75 : mm_own 75 = 6 := rfl
def mp_75_59 (L : Nat) (xs : Nat → Int32) (d : Nat) (v1 : Int32) (s0 : Int32) (M : mm_M) (o : mm_E) : Prop := ∀ z2 : Option Value, mm_Runs L xs d 75 (59, [some (.ref 16), some (.int v1), z2], [.int s0], M) o
def mp_75_110 (L : Nat) (xs : Nat → Int32) (d : Nat) (s0 : Int32) (M : mm_M) (o : mm_E) : Prop := ∀ z0 z1 z2 : Option Value, mm_Runs L xs d 75 (110, [z0, z1, z2], [.int s0], M) o
set_option maxRecDepth 8000 in
set_option maxHeartbeats 4000000 in
theorem ms_75_j110 {L : Nat} {xs : Nat → Int32} {d : Nat} (hd : 12 ≤ d) {s0 : Int32} {M : mm_M} {q : (Unit ⊕ Nat) × mm_M} {o : mm_E} (h : mf_75_j110 s0 M = some q) (hA : mm_A (mm_Kr mm_wv) q o) : mp_75_110 L xs d s0 M o := by
  unfold mf_75_j110 at h
  obtain ⟨d, rfl⟩ := mm_d1 (n := 11) hd
  intro z0 z1 z2
  show mm_Runs L xs (d + 1) 75 (110, [z0, z1, z2], [.int s0], M) o
  refine mm_R_call (v := mm_wv) h hA (k2 := 27) (as := [.int s0]) (r := []) rfl (fun _ => rfl) (fun q hq o ho => ms_27 (by omega) hq ho) (fun _ M1 h => ?_)
  show mm_Runs L xs (d + 1) 75 (113, [z0, z1, z2], [], M1) o
  cases h
  exact mm_R_retv rfl rfl hA
set_option maxRecDepth 8000 in
set_option maxHeartbeats 4000000 in
theorem ms_75_j59 {L : Nat} {xs : Nat → Int32} {d : Nat} (hd : 12 ≤ d) {v1 : Int32} {s0 : Int32} {M : mm_M} {q : (Unit ⊕ Nat) × mm_M} {o : mm_E} (h : mf_75_j59 v1 s0 M = some q) (hA : mm_A (mm_Kr mm_wv) q o) : mp_75_59 L xs d v1 s0 M o := by
  unfold mf_75_j59 at h
  obtain ⟨d, rfl⟩ := mm_d1 (n := 11) hd
  intro z2
  show mm_Runs L xs (d + 1) 75 (59, [some (.ref 16), some (.int v1), z2], [.int s0], M) o
  refine mm_R_call (v := mm_wv) h hA (k2 := 27) (as := [.int s0]) (r := []) rfl (fun _ => rfl) (fun q hq o ho => ms_27 (by omega) hq ho) (fun _ M1 h => ?_)
  show mm_Runs L xs (d + 1) 75 (62, [some (.ref 16), some (.int v1), z2], [], M1) o
  refine mm_Runs.seq (l := [(62, .aload_n 0, 1), (63, .iconst 1, 1), (64, .bipush 8, 2), (66, .iload_n 1, 1), (67, .bipush 16, 2), (69, .idiv, 1), (70, .iadd, 1), (71, .ishl, 1)]) (S2 := (72, [some (.ref 16), some (.int v1), z2], [.int (mm_shl (1 : Int32) ((8 : Int32) + (v1 / (16 : Int32)))), .ref 16], M1)) (by decide +kernel) (hO := mm_own_75) rfl ?_
  refine mm_R_call (v := mm_wv) h hA (k2 := 79) (as := [.ref 16, .int (mm_shl (1 : Int32) ((8 : Int32) + (v1 / (16 : Int32))))]) (r := []) rfl (fun _ => rfl) (fun q hq o ho => ms_79 (by omega) hq ho) (fun _ M2 h => ?_)
  show mm_Runs L xs (d + 1) 75 (75, [some (.ref 16), some (.int v1), z2], [], M2) o
  refine mm_Runs.seq (l := [(75, .aload_n 0, 1), (76, .getfield 39, 3), (79, .iconst 4, 1)]) (S2 := (80, [some (.ref 16), some (.int v1), z2], [.int (4 : Int32), .ref 1], M2)) (by decide +kernel) (hO := mm_own_75) rfl ?_
  refine mm_R_call (v := mm_wl) h hA (k2 := 48) (as := [.ref 1, .int (4 : Int32)]) (r := []) rfl (fun _ => rfl) (fun q hq o ho => ms_48 (by omega) hq ho) (fun r3 M4 h => ?_)
  show mm_Runs L xs (d + 1) 75 (83, [some (.ref 16), some (.int v1), z2], [.long r3], M4) o
  refine mm_Runs.seq (l := [(83, .l2i, 1), (84, .aload_n 0, 1), (85, .getfield 43, 3), (88, .getfield 72, 3), (91, .iconst 0, 1), (92, .aload_n 0, 1), (93, .getfield 43, 3), (96, .getfield 77, 3)]) (S2 := (99, [some (.ref 16), some (.int v1), z2], [.int (M4.1 3 1), .int (0 : Int32), .ref 4, .int r3.toInt32], M4)) (by decide +kernel) (hO := mm_own_75) rfl ?_
  refine mm_R_call (v := mm_wi) h hA (k2 := 30) (as := [.ref 4, .int (0 : Int32), .int (M4.1 3 1)]) (r := [.int r3.toInt32]) rfl (fun _ => rfl) (fun q hq o ho => ms_30 rfl (by omega) hq ho) (fun r5 M6 h => ?_)
  show mm_Runs L xs (d + 1) 75 (102, [some (.ref 16), some (.int v1), z2], [.int r5, .int r3.toInt32], M6) o
  refine mm_R_ieq (t := 109) rfl rfl rfl (fun hc => ?_) (fun hc => ?_)
  · replace h := mm_ip hc h
    refine mm_Runs.seq (l := [(109, .iconst 0, 1)]) (S2 := (110, [some (.ref 16), some (.int v1), z2], [.int (0 : Int32)], M6)) (by decide +kernel) (hO := mm_own_75) rfl ?_
    exact (ms_75_j110 hd h hA : mp_75_110 L xs (d + 1) (0 : Int32) M6 o) (some (.ref 16)) (some (.int v1)) z2
  · replace h := mm_iq hc h
    refine mm_Runs.seq (l := [(105, .iconst 1, 1), (106, .goto 4, 3)]) (S2 := (110, [some (.ref 16), some (.int v1), z2], [.int (1 : Int32)], M6)) (by decide +kernel) (hO := mm_own_75) rfl ?_
    exact (ms_75_j110 hd h hA : mp_75_110 L xs (d + 1) (1 : Int32) M6 o) (some (.ref 16)) (some (.int v1)) z2
set_option maxRecDepth 8000 in
set_option maxHeartbeats 4000000 in
theorem ms_75 {L : Nat} {xs : Nat → Int32} {d : Nat} (hd : 12 ≤ d) {M : mm_M} {q : (Unit ⊕ Nat) × mm_M} {o : mm_E} (h : mf_75 M = some q) (hA : mm_A (mm_Kr mm_wv) q o) : mm_Runs L xs d 75 (0, mm_ent (mm_ml 75) [.ref 16], [], M) o := by
  unfold mf_75 at h
  obtain ⟨d, rfl⟩ := mm_d1 (n := 11) hd
  show mm_Runs L xs (d + 1) 75 (0, [some (.ref 16), none, none], [], M) o
  refine mm_Runs.seq (l := [(0, .aload_n 0, 1), (1, .getfield 39, 3)]) (S2 := (4, [some (.ref 16), none, none], [.ref 1], M)) (by decide +kernel) (hO := mm_own_75) rfl ?_
  refine mm_R_call (v := mm_wi) h hA (k2 := 44) (as := [.ref 1]) (r := []) rfl (fun _ => rfl) (fun q hq o ho => ms_44 (by omega) hq ho) (fun r1 M2 h => ?_)
  show mm_Runs L xs (d + 1) 75 (7, [some (.ref 16), none, none], [.int r1], M2) o
  refine mm_Runs.seq (l := [(7, .istore_n 1, 1), (8, .aload_n 0, 1), (9, .getfield 39, 3)]) (S2 := (12, [some (.ref 16), some (.int r1), none], [.ref 1], M2)) (by decide +kernel) (hO := mm_own_75) rfl ?_
  refine mm_R_call (v := mm_wi) h hA (k2 := 44) (as := [.ref 1]) (r := []) rfl (fun _ => rfl) (fun q hq o ho => ms_44 (by omega) hq ho) (fun r3 M4 h => ?_)
  show mm_Runs L xs (d + 1) 75 (15, [some (.ref 16), some (.int r1), none], [.int r3], M4) o
  refine mm_Runs.seq (l := [(15, .istore_n 2, 1), (16, .iload_n 1, 1), (17, .bipush 16, 2), (19, .irem, 1), (20, .bipush 8, 2)]) (S2 := (22, [some (.ref 16), some (.int r1), some (.int r3)], [.int (8 : Int32), .int (mm_rem r1 (16 : Int32))], M4)) (by decide +kernel) (hO := mm_own_75) rfl ?_
  refine mm_R_ine (t := 54) rfl rfl rfl (fun hc => ?_) (fun hc => ?_)
  · replace h := mm_ip hc h
    refine mm_Runs.seq (l := [(25, .iload_n 1, 1), (26, .bipush 16, 2), (28, .idiv, 1), (29, .bipush 7, 2)]) (S2 := (31, [some (.ref 16), some (.int r1), some (.int r3)], [.int (7 : Int32), .int (r1 / (16 : Int32))], M4)) (by decide +kernel) (hO := mm_own_75) rfl ?_
    refine mm_R_igt (t := 54) rfl rfl rfl (fun hc => ?_) (fun hc => ?_)
    · replace h := mm_ip hc h
      refine mm_Runs.seq (l := [(54, .iconst 1, 1), (55, .goto 4, 3)]) (S2 := (59, [some (.ref 16), some (.int r1), some (.int r3)], [.int (1 : Int32)], M4)) (by decide +kernel) (hO := mm_own_75) rfl ?_
      exact (ms_75_j59 hd h hA : mp_75_59 L xs (d + 1) r1 (1 : Int32) M4 o) (some (.int r3))
    · replace h := mm_iq hc h
      refine mm_Runs.seq (l := [(34, .sipush 256, 3), (37, .iload_n 1, 1), (38, .imul, 1), (39, .iload_n 2, 1), (40, .iadd, 1), (41, .bipush 31, 2), (43, .irem, 1)]) (S2 := (44, [some (.ref 16), some (.int r1), some (.int r3)], [.int (mm_rem (((256 : Int32) * r1) + r3) (31 : Int32))], M4)) (by decide +kernel) (hO := mm_own_75) rfl ?_
      refine mm_R_zne (t := 54) rfl rfl rfl (fun hc => ?_) (fun hc => ?_)
      · replace h := mm_ip hc h
        refine mm_Runs.seq (l := [(47, .iload_n 2, 1), (48, .bipush 32, 2), (50, .iand, 1)]) (S2 := (51, [some (.ref 16), some (.int r1), some (.int r3)], [.int (r3 &&& (32 : Int32))], M4)) (by decide +kernel) (hO := mm_own_75) rfl ?_
        refine mm_R_zeq (t := 58) rfl rfl rfl (fun hc => ?_) (fun hc => ?_)
        · replace h := mm_ip hc h
          refine mm_Runs.seq (l := [(58, .iconst 0, 1)]) (S2 := (59, [some (.ref 16), some (.int r1), some (.int r3)], [.int (0 : Int32)], M4)) (by decide +kernel) (hO := mm_own_75) rfl ?_
          exact (ms_75_j59 hd h hA : mp_75_59 L xs (d + 1) r1 (0 : Int32) M4 o) (some (.int r3))
        · replace h := mm_iq hc h
          refine mm_Runs.seq (l := [(54, .iconst 1, 1), (55, .goto 4, 3)]) (S2 := (59, [some (.ref 16), some (.int r1), some (.int r3)], [.int (1 : Int32)], M4)) (by decide +kernel) (hO := mm_own_75) rfl ?_
          exact (ms_75_j59 hd h hA : mp_75_59 L xs (d + 1) r1 (1 : Int32) M4 o) (some (.int r3))
      · replace h := mm_iq hc h
        refine mm_Runs.seq (l := [(54, .iconst 1, 1), (55, .goto 4, 3)]) (S2 := (59, [some (.ref 16), some (.int r1), some (.int r3)], [.int (1 : Int32)], M4)) (by decide +kernel) (hO := mm_own_75) rfl ?_
        exact (ms_75_j59 hd h hA : mp_75_59 L xs (d + 1) r1 (1 : Int32) M4 o) (some (.int r3))
  · replace h := mm_iq hc h
    refine mm_Runs.seq (l := [(54, .iconst 1, 1), (55, .goto 4, 3)]) (S2 := (59, [some (.ref 16), some (.int r1), some (.int r3)], [.int (1 : Int32)], M4)) (by decide +kernel) (hO := mm_own_75) rfl ?_
    exact (ms_75_j59 hd h hA : mp_75_59 L xs (d + 1) r1 (1 : Int32) M4 o) (some (.int r3))
-- 77: PlainPacks$Blocks.passBytes(I)V (depth 8)
theorem mm_own_77 : mm_own 77 = 6 := rfl
def mp_77_2 (L : Nat) (xs : Nat → Int32) (d : Nat) (v1 : Int32) (v2 : Int32) (M : mm_M) (o : mm_E) : Prop := mm_Runs L xs d 77 (2, [some (.ref 16), some (.int v1), some (.int v2)], [], M) o
def mp_77_21 (L : Nat) (xs : Nat → Int32) (d : Nat) (M : mm_M) (o : mm_E) : Prop := ∀ z0 z1 z2 : Option Value, mm_Runs L xs d 77 (21, [z0, z1, z2], [], M) o
set_option maxRecDepth 8000 in
set_option maxHeartbeats 4000000 in
theorem ms_77_b2 {L : Nat} {xs : Nat → Int32} {d : Nat} (hd : 8 ≤ d) {v1 : Int32} {v2 : Int32} {M : mm_M} {q : (((Int32) ⊕ (Unit)) ⊕ Nat) × mm_M} {o : mm_E} (h : mf_77_b2 v1 v2 M = some q) (hA : mm_A (mm_K2 (fun s M o => mp_77_2 L xs (d) v1 s M o) (fun r M o => mp_77_21 L xs (d) M o)) q o) : mp_77_2 L xs d v1 v2 M o := by
  unfold mf_77_b2 at h
  obtain ⟨d, rfl⟩ := mm_d1 (n := 7) hd
  show mm_Runs L xs (d + 1) 77 (2, [some (.ref 16), some (.int v1), some (.int v2)], [], M) o
  refine mm_Runs.seq (l := [(2, .iload_n 2, 1), (3, .iload_n 1, 1)]) (S2 := (4, [some (.ref 16), some (.int v1), some (.int v2)], [.int v1, .int v2], M)) (by decide +kernel) (hO := mm_own_77) rfl ?_
  refine mm_R_ige (t := 21) rfl rfl rfl (fun hc => ?_) (fun hc => ?_)
  · replace h := mm_ip hc h
    refine mm_Runs.seq (l := [(7, .aload_n 0, 1), (8, .getfield 39, 3)]) (S2 := (11, [some (.ref 16), some (.int v1), some (.int v2)], [.ref 1], M)) (by decide +kernel) (hO := mm_own_77) rfl ?_
    refine mm_R_call (v := mm_wi) h hA (k2 := 44) (as := [.ref 1]) (r := []) rfl (fun _ => rfl) (fun q hq o ho => ms_44 (by omega) hq ho) (fun r1 M2 h => ?_)
    show mm_Runs L xs (d + 1) 77 (14, [some (.ref 16), some (.int v1), some (.int v2)], [.int r1], M2) o
    refine mm_Runs.seq (l := [(14, .pop, 1), (15, .iinc 2 1, 3), (18, .goto (-16), 3)]) (S2 := (2, [some (.ref 16), some (.int v1), some (.int (v2 + (1 : Int32)))], [], M2)) (by decide +kernel) (hO := mm_own_77) rfl ?_
    cases h
    exact (show mp_77_2 L xs (d + 1) v1 (v2 + (1 : Int32)) M2 o from hA)
  · replace h := mm_iq hc h
    cases h
    exact (show mp_77_21 L xs (d + 1) M o from hA) (some (.ref 16)) (some (.int v1)) (some (.int v2))
theorem ms_77_L2 {L : Nat} {xs : Nat → Int32} {d : Nat} (hd : 8 ≤ d) {v1 : Int32} {v2 : Int32} {β : Type} {K : β → mm_M → mm_E → Prop} {F : (Unit) → mm_M → mm_O β} {M : mm_M} {q : (β ⊕ Nat) × mm_M} {o : mm_E} (h : mm_B (mf_77_L2 v1 v2 M) F = some q) (hA : mm_A K q o) (hx : ∀ (r : (Unit)) (M2 : mm_M), F r M2 = some q → (fun r M o => mp_77_21 L xs (d) M o) r M2 o) : mp_77_2 L xs d v1 v2 M o := by
  unfold mf_77_L2 at h
  exact mm_R_loop (step := (fun s M => mf_77_b2 v1 s M)) (s := v2) (M := M) (P := (fun s M o => mp_77_2 L xs (d) v1 s M o)) (X := (fun r M o => mp_77_21 L xs (d) M o)) h hA (fun s M q hq hA => ms_77_b2 (v1 := v1) (v2 := s) (M := M) (q := q) hd hq hA) hx
set_option maxRecDepth 8000 in
set_option maxHeartbeats 4000000 in
theorem ms_77 {L : Nat} {xs : Nat → Int32} {d : Nat} (hd : 8 ≤ d) {v1 : Int32} {M : mm_M} {q : (Unit ⊕ Nat) × mm_M} {o : mm_E} (h : mf_77 v1 M = some q) (hA : mm_A (mm_Kr mm_wv) q o) : mm_Runs L xs d 77 (0, mm_ent (mm_ml 77) [.ref 16, .int v1], [], M) o := by
  unfold mf_77 at h
  obtain ⟨d, rfl⟩ := mm_d1 (n := 7) hd
  show mm_Runs L xs (d + 1) 77 (0, [some (.ref 16), some (.int v1), none], [], M) o
  refine mm_Runs.seq (l := [(0, .iconst 0, 1), (1, .istore_n 2, 1)]) (S2 := (2, [some (.ref 16), some (.int v1), some (.int (0 : Int32))], [], M)) (by decide +kernel) (hO := mm_own_77) rfl ?_
  have hp : mp_77_2 L xs (d + 1) v1 (0 : Int32) M o := by
    refine ms_77_L2 hd h hA (fun r2 M1 h => ?_)
    intro y3 y4 y5
    show mm_Runs L xs (d + 1) 77 (21, [y3, y4, y5], [], M1) o
    cases h
    exact mm_R_retv rfl rfl hA
  exact hp
-- 78: PlainPacks$Blocks.passText()V (depth 8)
theorem mm_own_78 : mm_own 78 = 6 := rfl
def mp_78_10 (L : Nat) (xs : Nat → Int32) (d : Nat) (v1 : Int32) (v2 : Int32) (M : mm_M) (o : mm_E) : Prop := mm_Runs L xs d 78 (10, [some (.ref 16), some (.int v1), some (.int v2)], [], M) o
def mp_78_34 (L : Nat) (xs : Nat → Int32) (d : Nat) (M : mm_M) (o : mm_E) : Prop := ∀ z0 z1 z2 : Option Value, mm_Runs L xs d 78 (34, [z0, z1, z2], [], M) o
set_option maxRecDepth 8000 in
set_option maxHeartbeats 4000000 in
theorem ms_78_b10 {L : Nat} {xs : Nat → Int32} {d : Nat} (hd : 8 ≤ d) {v1 : Int32} {v2 : Int32} {M : mm_M} {q : (((Int32 × Int32) ⊕ (Unit)) ⊕ Nat) × mm_M} {o : mm_E} (h : mf_78_b10 v1 v2 M = some q) (hA : mm_A (mm_K2 (fun s M o => mp_78_10 L xs (d) s.1 s.2 M o) (fun r M o => mp_78_34 L xs (d) M o)) q o) : mp_78_10 L xs d v1 v2 M o := by
  unfold mf_78_b10 at h
  obtain ⟨d, rfl⟩ := mm_d1 (n := 7) hd
  show mm_Runs L xs (d + 1) 78 (10, [some (.ref 16), some (.int v1), some (.int v2)], [], M) o
  refine mm_Runs.seq (l := [(10, .iload_n 2, 1), (11, .ldc 103, 2)]) (S2 := (13, [some (.ref 16), some (.int v1), some (.int v2)], [.int (1000000 : Int32), .int v2], M)) (by decide +kernel) (hO := mm_own_78) rfl ?_
  refine mm_R_ige (t := 34) rfl rfl rfl (fun hc => ?_) (fun hc => ?_)
  · replace h := mm_ip hc h
    refine mm_Runs.seq (l := [(16, .iload_n 1, 1)]) (S2 := (17, [some (.ref 16), some (.int v1), some (.int v2)], [.int v1], M)) (by decide +kernel) (hO := mm_own_78) rfl ?_
    refine mm_R_zeq (t := 34) rfl rfl rfl (fun hc => ?_) (fun hc => ?_)
    · replace h := mm_ip hc h
      cases h
      exact (show mp_78_34 L xs (d + 1) M o from hA) (some (.ref 16)) (some (.int v1)) (some (.int v2))
    · replace h := mm_iq hc h
      refine mm_Runs.seq (l := [(20, .aload_n 0, 1), (21, .getfield 39, 3)]) (S2 := (24, [some (.ref 16), some (.int v1), some (.int v2)], [.ref 1], M)) (by decide +kernel) (hO := mm_own_78) rfl ?_
      refine mm_R_call (v := mm_wi) h hA (k2 := 44) (as := [.ref 1]) (r := []) rfl (fun _ => rfl) (fun q hq o ho => ms_44 (by omega) hq ho) (fun r1 M2 h => ?_)
      show mm_Runs L xs (d + 1) 78 (27, [some (.ref 16), some (.int v1), some (.int v2)], [.int r1], M2) o
      refine mm_Runs.seq (l := [(27, .istore_n 1, 1), (28, .iinc 2 1, 3), (31, .goto (-21), 3)]) (S2 := (10, [some (.ref 16), some (.int r1), some (.int (v2 + (1 : Int32)))], [], M2)) (by decide +kernel) (hO := mm_own_78) rfl ?_
      cases h
      exact (show mp_78_10 L xs (d + 1) r1 (v2 + (1 : Int32)) M2 o from hA)
  · replace h := mm_iq hc h
    cases h
    exact (show mp_78_34 L xs (d + 1) M o from hA) (some (.ref 16)) (some (.int v1)) (some (.int v2))
theorem ms_78_L10 {L : Nat} {xs : Nat → Int32} {d : Nat} (hd : 8 ≤ d) {v1 : Int32} {v2 : Int32} {β : Type} {K : β → mm_M → mm_E → Prop} {F : (Unit) → mm_M → mm_O β} {M : mm_M} {q : (β ⊕ Nat) × mm_M} {o : mm_E} (h : mm_B (mf_78_L10 (v1, v2) M) F = some q) (hA : mm_A K q o) (hx : ∀ (r : (Unit)) (M2 : mm_M), F r M2 = some q → (fun r M o => mp_78_34 L xs (d) M o) r M2 o) : mp_78_10 L xs d v1 v2 M o := by
  unfold mf_78_L10 at h
  exact mm_R_loop (step := (fun s M => mf_78_b10 s.1 s.2 M)) (s := (v1, v2)) (M := M) (P := (fun s M o => mp_78_10 L xs (d) s.1 s.2 M o)) (X := (fun r M o => mp_78_34 L xs (d) M o)) h hA (fun s M q hq hA => ms_78_b10 (v1 := s.1) (v2 := s.2) (M := M) (q := q) hd hq hA) hx
set_option maxRecDepth 8000 in
set_option maxHeartbeats 4000000 in
theorem ms_78 {L : Nat} {xs : Nat → Int32} {d : Nat} (hd : 8 ≤ d) {M : mm_M} {q : (Unit ⊕ Nat) × mm_M} {o : mm_E} (h : mf_78 M = some q) (hA : mm_A (mm_Kr mm_wv) q o) : mm_Runs L xs d 78 (0, mm_ent (mm_ml 78) [.ref 16], [], M) o := by
  unfold mf_78 at h
  obtain ⟨d, rfl⟩ := mm_d1 (n := 7) hd
  show mm_Runs L xs (d + 1) 78 (0, [some (.ref 16), none, none], [], M) o
  refine mm_Runs.seq (l := [(0, .aload_n 0, 1), (1, .getfield 39, 3)]) (S2 := (4, [some (.ref 16), none, none], [.ref 1], M)) (by decide +kernel) (hO := mm_own_78) rfl ?_
  refine mm_R_call (v := mm_wi) h hA (k2 := 44) (as := [.ref 1]) (r := []) rfl (fun _ => rfl) (fun q hq o ho => ms_44 (by omega) hq ho) (fun r1 M2 h => ?_)
  show mm_Runs L xs (d + 1) 78 (7, [some (.ref 16), none, none], [.int r1], M2) o
  refine mm_Runs.seq (l := [(7, .istore_n 1, 1), (8, .iconst 0, 1), (9, .istore_n 2, 1)]) (S2 := (10, [some (.ref 16), some (.int r1), some (.int (0 : Int32))], [], M2)) (by decide +kernel) (hO := mm_own_78) rfl ?_
  have hp : mp_78_10 L xs (d + 1) r1 (0 : Int32) M2 o := by
    refine ms_78_L10 hd h hA (fun r4 M3 h => ?_)
    intro y5 y6 y7
    show mm_Runs L xs (d + 1) 78 (34, [y5, y6, y7], [], M3) o
    cases h
    exact mm_R_retv rfl rfl hA
  exact hp
-- 28: PlainPacks.crcOf([III)I (depth 0)
theorem mm_own_28 : mm_own 28 = 0 := rfl
def mp_28_5 (L : Nat) (xs : Nat → Int32) (p : Nat) (n : Nat) (d : Nat) (v2 : Int32) (v3 : Int32) (v4 : Int32) (M : mm_M) (o : mm_E) : Prop := ∀ z1 z5 : Option Value, mm_Runs L xs d 28 (5, [some (.ref p), z1, some (.int v2), some (.int v3), some (.int v4), z5], [], M) o
def mp_28_60 (L : Nat) (xs : Nat → Int32) (p : Nat) (n : Nat) (d : Nat) (v3 : Int32) (M : mm_M) (o : mm_E) : Prop := ∀ z0 z1 z2 z4 z5 : Option Value, mm_Runs L xs d 28 (60, [z0, z1, z2, some (.int v3), z4, z5], [], M) o
def mp_28_21 (L : Nat) (xs : Nat → Int32) (p : Nat) (n : Nat) (d : Nat) (v2 : Int32) (v3 : Int32) (v4 : Int32) (v5 : Int32) (M : mm_M) (o : mm_E) : Prop := ∀ z1 : Option Value, mm_Runs L xs d 28 (21, [some (.ref p), z1, some (.int v2), some (.int v3), some (.int v4), some (.int v5)], [], M) o
def mp_28_54 (L : Nat) (xs : Nat → Int32) (p : Nat) (n : Nat) (d : Nat) (v2 : Int32) (v3 : Int32) (v4 : Int32) (M : mm_M) (o : mm_E) : Prop := ∀ z1 z5 : Option Value, mm_Runs L xs d 28 (54, [some (.ref p), z1, some (.int v2), some (.int v3), some (.int v4), z5], [], M) o
set_option maxRecDepth 8000 in
set_option maxHeartbeats 4000000 in
theorem ms_28_b21 {L : Nat} {xs : Nat → Int32} {p : Nat} {n : Nat} {d : Nat} (ha : mm_aat 0 p = some n) (hd : 0 ≤ d) {v2 : Int32} {v3 : Int32} {v4 : Int32} {v5 : Int32} {M : mm_M} {q : (((Int32 × Int32) ⊕ (Int32)) ⊕ Nat) × mm_M} {o : mm_E} (h : mf_28_b21 p n v2 v3 v4 v5 M = some q) (hA : mm_A (mm_K2 (fun s M o => mp_28_21 L xs p n (d) v2 s.1 v4 s.2 M o) (fun r M o => mp_28_54 L xs p n (d) v2 r v4 M o)) q o) : mp_28_21 L xs p n d v2 v3 v4 v5 M o := by
  unfold mf_28_b21 at h
  intro z1
  show mm_Runs L xs (d) 28 (21, [some (.ref p), z1, some (.int v2), some (.int v3), some (.int v4), some (.int v5)], [], M) o
  refine mm_Runs.seq (l := [(21, .iload 5, 2), (23, .bipush 8, 2)]) (S2 := (25, [some (.ref p), z1, some (.int v2), some (.int v3), some (.int v4), some (.int v5)], [.int (8 : Int32), .int v5], M)) (by decide +kernel) (hO := mm_own_28) rfl ?_
  refine mm_R_ige (t := 54) rfl rfl rfl (fun hc => ?_) (fun hc => ?_)
  · replace h := mm_ip hc h
    refine mm_Runs.seq (l := [(28, .iload_n 3, 1), (29, .iconst 1, 1), (30, .iand, 1)]) (S2 := (31, [some (.ref p), z1, some (.int v2), some (.int v3), some (.int v4), some (.int v5)], [.int (v3 &&& (1 : Int32))], M)) (by decide +kernel) (hO := mm_own_28) rfl ?_
    refine mm_R_zeq (t := 44) rfl rfl rfl (fun hc => ?_) (fun hc => ?_)
    · replace h := mm_ip hc h
      refine mm_Runs.seq (l := [(44, .iload_n 3, 1), (45, .iconst 1, 1), (46, .iushr, 1), (47, .istore_n 3, 1), (48, .iinc 5 1, 3), (51, .goto (-30), 3)]) (S2 := (21, [some (.ref p), z1, some (.int v2), some (.int (mm_ush v3 (1 : Int32))), some (.int v4), some (.int (v5 + (1 : Int32)))], [], M)) (by decide +kernel) (hO := mm_own_28) rfl ?_
      cases h
      exact (show mp_28_21 L xs p n (d) v2 (mm_ush v3 (1 : Int32)) v4 (v5 + (1 : Int32)) M o from hA) z1
    · replace h := mm_iq hc h
      refine mm_Runs.seq (l := [(34, .iload_n 3, 1), (35, .iconst 1, 1), (36, .iushr, 1), (37, .ldc_w 282, 3), (40, .ixor, 1), (41, .goto 6, 3), (47, .istore_n 3, 1), (48, .iinc 5 1, 3), (51, .goto (-30), 3)]) (S2 := (21, [some (.ref p), z1, some (.int v2), some (.int ((mm_ush v3 (1 : Int32)) ^^^ (-306674912 : Int32))), some (.int v4), some (.int (v5 + (1 : Int32)))], [], M)) (by decide +kernel) (hO := mm_own_28) rfl ?_
      cases h
      exact (show mp_28_21 L xs p n (d) v2 ((mm_ush v3 (1 : Int32)) ^^^ (-306674912 : Int32)) v4 (v5 + (1 : Int32)) M o from hA) z1
  · replace h := mm_iq hc h
    cases h
    exact (show mp_28_54 L xs p n (d) v2 v3 v4 M o from hA) z1 (some (.int v5))
theorem ms_28_L21 {L : Nat} {xs : Nat → Int32} {p : Nat} {n : Nat} {d : Nat} (ha : mm_aat 0 p = some n) (hd : 0 ≤ d) {v2 : Int32} {v3 : Int32} {v4 : Int32} {v5 : Int32} {β : Type} {K : β → mm_M → mm_E → Prop} {F : (Int32) → mm_M → mm_O β} {M : mm_M} {q : (β ⊕ Nat) × mm_M} {o : mm_E} (h : mm_B (mf_28_L21 p n v2 v4 (v3, v5) M) F = some q) (hA : mm_A K q o) (hx : ∀ (r : (Int32)) (M2 : mm_M), F r M2 = some q → (fun r M o => mp_28_54 L xs p n (d) v2 r v4 M o) r M2 o) : mp_28_21 L xs p n d v2 v3 v4 v5 M o := by
  unfold mf_28_L21 at h
  exact mm_R_loop (step := (fun s M => mf_28_b21 p n v2 s.1 v4 s.2 M)) (s := (v3, v5)) (M := M) (P := (fun s M o => mp_28_21 L xs p n (d) v2 s.1 v4 s.2 M o)) (X := (fun r M o => mp_28_54 L xs p n (d) v2 r v4 M o)) h hA (fun s M q hq hA => ms_28_b21 ha (v2 := v2) (v3 := s.1) (v4 := v4) (v5 := s.2) (M := M) (q := q) hd hq hA) hx
set_option maxRecDepth 8000 in
set_option maxHeartbeats 4000000 in
theorem ms_28_b5 {L : Nat} {xs : Nat → Int32} {p : Nat} {n : Nat} {d : Nat} (ha : mm_aat 0 p = some n) (hd : 0 ≤ d) {v2 : Int32} {v3 : Int32} {v4 : Int32} {M : mm_M} {q : (((Int32 × Int32) ⊕ (Int32)) ⊕ Nat) × mm_M} {o : mm_E} (h : mf_28_b5 p n v2 v3 v4 M = some q) (hA : mm_A (mm_K2 (fun s M o => mp_28_5 L xs p n (d) v2 s.1 s.2 M o) (fun r M o => mp_28_60 L xs p n (d) r M o)) q o) : mp_28_5 L xs p n d v2 v3 v4 M o := by
  unfold mf_28_b5 at h
  intro z1 z5
  show mm_Runs L xs (d) 28 (5, [some (.ref p), z1, some (.int v2), some (.int v3), some (.int v4), z5], [], M) o
  refine mm_Runs.seq (l := [(5, .iload 4, 2), (7, .iload_n 2, 1)]) (S2 := (8, [some (.ref p), z1, some (.int v2), some (.int v3), some (.int v4), z5], [.int v2, .int v4], M)) (by decide +kernel) (hO := mm_own_28) rfl ?_
  refine mm_R_ige (t := 60) rfl rfl rfl (fun hc => ?_) (fun hc => ?_)
  · replace h := mm_ip hc h
    refine mm_Runs.seq (l := [(11, .iload_n 3, 1), (12, .aload_n 0, 1), (13, .iload 4, 2)]) (S2 := (15, [some (.ref p), z1, some (.int v2), some (.int v3), some (.int v4), z5], [.int v4, .ref p, .int v3], M)) (by decide +kernel) (hO := mm_own_28) rfl ?_
    obtain ⟨hb, h⟩ := mm_gd h
    refine mm_R_iald rfl ha hb ?_
    refine mm_Runs.seq (l := [(16, .ixor, 1), (17, .istore_n 3, 1), (18, .iconst 0, 1), (19, .istore 5, 2)]) (S2 := (21, [some (.ref p), z1, some (.int v2), some (.int (v3 ^^^ (M.1 p v4.toNatClampNeg))), some (.int v4), some (.int (0 : Int32))], [], M)) (by decide +kernel) (hO := mm_own_28) rfl ?_
    have hp : mp_28_21 L xs p n (d) v2 (v3 ^^^ (M.1 p v4.toNatClampNeg)) v4 (0 : Int32) M o := by
      refine ms_28_L21 ha hd h hA (fun r2 M1 h => ?_)
      intro y3 y4
      show mm_Runs L xs (d) 28 (54, [some (.ref p), y3, some (.int v2), some (.int r2), some (.int v4), y4], [], M1) o
      refine mm_Runs.seq (l := [(54, .iinc 4 1, 3), (57, .goto (-52), 3)]) (S2 := (5, [some (.ref p), y3, some (.int v2), some (.int r2), some (.int (v4 + (1 : Int32))), y4], [], M1)) (by decide +kernel) (hO := mm_own_28) rfl ?_
      cases h
      exact (show mp_28_5 L xs p n (d) v2 r2 (v4 + (1 : Int32)) M1 o from hA) y3 y4
    exact hp z1
  · replace h := mm_iq hc h
    cases h
    exact (show mp_28_60 L xs p n (d) v3 M o from hA) (some (.ref p)) z1 (some (.int v2)) (some (.int v4)) z5
theorem ms_28_L5 {L : Nat} {xs : Nat → Int32} {p : Nat} {n : Nat} {d : Nat} (ha : mm_aat 0 p = some n) (hd : 0 ≤ d) {v2 : Int32} {v3 : Int32} {v4 : Int32} {β : Type} {K : β → mm_M → mm_E → Prop} {F : (Int32) → mm_M → mm_O β} {M : mm_M} {q : (β ⊕ Nat) × mm_M} {o : mm_E} (h : mm_B (mf_28_L5 p n v2 (v3, v4) M) F = some q) (hA : mm_A K q o) (hx : ∀ (r : (Int32)) (M2 : mm_M), F r M2 = some q → (fun r M o => mp_28_60 L xs p n (d) r M o) r M2 o) : mp_28_5 L xs p n d v2 v3 v4 M o := by
  unfold mf_28_L5 at h
  exact mm_R_loop (step := (fun s M => mf_28_b5 p n v2 s.1 s.2 M)) (s := (v3, v4)) (M := M) (P := (fun s M o => mp_28_5 L xs p n (d) v2 s.1 s.2 M o)) (X := (fun r M o => mp_28_60 L xs p n (d) r M o)) h hA (fun s M q hq hA => ms_28_b5 ha (v2 := v2) (v3 := s.1) (v4 := s.2) (M := M) (q := q) hd hq hA) hx
set_option maxRecDepth 8000 in
set_option maxHeartbeats 4000000 in
theorem ms_28 {L : Nat} {xs : Nat → Int32} {p : Nat} {n : Nat} {d : Nat} (ha : mm_aat 0 p = some n) (hd : 0 ≤ d) {v1 : Int32} {v2 : Int32} {M : mm_M} {q : (Int32 ⊕ Nat) × mm_M} {o : mm_E} (h : mf_28 p n v1 v2 M = some q) (hA : mm_A (mm_Kr mm_wi) q o) : mm_Runs L xs d 28 (0, mm_ent (mm_ml 28) [.ref p, .int v1, .int v2], [], M) o := by
  unfold mf_28 at h
  show mm_Runs L xs (d) 28 (0, [some (.ref p), some (.int v1), some (.int v2), none, none, none], [], M) o
  refine mm_Runs.seq (l := [(0, .iconst (-1), 1), (1, .istore_n 3, 1), (2, .iload_n 1, 1), (3, .istore 4, 2)]) (S2 := (5, [some (.ref p), some (.int v1), some (.int v2), some (.int (-1 : Int32)), some (.int v1), none], [], M)) (by decide +kernel) (hO := mm_own_28) rfl ?_
  have hp : mp_28_5 L xs p n (d) v2 (-1 : Int32) v1 M o := by
    refine ms_28_L5 ha hd h hA (fun r2 M1 h => ?_)
    intro y3 y4 y5 y6 y7
    show mm_Runs L xs (d) 28 (60, [y3, y4, y5, some (.int r2), y6, y7], [], M1) o
    refine mm_Runs.seq (l := [(60, .iload_n 3, 1), (61, .iconst (-1), 1), (62, .ixor, 1)]) (S2 := (63, [y3, y4, y5, some (.int r2), y6, y7], [.int (r2 ^^^ (-1 : Int32))], M1)) (by decide +kernel) (hO := mm_own_28) rfl ?_
    cases h
    exact mm_R_reti rfl rfl hA
  exact hp (some (.int v1)) none
-- 76: PlainPacks$Blocks.readFile()V (depth 12)
theorem mm_own_76 : mm_own 76 = 6 := rfl
def mp_76_17 (L : Nat) (xs : Nat → Int32) (d : Nat) (s0 : Int32) (M : mm_M) (o : mm_E) : Prop := ∀ z1 z2 : Option Value, mm_Runs L xs d 76 (17, [some (.ref 16), z1, z2], [.int s0], M) o
def mp_76_38 (L : Nat) (xs : Nat → Int32) (d : Nat) (s0 : Int32) (M : mm_M) (o : mm_E) : Prop := ∀ z1 z2 : Option Value, mm_Runs L xs d 76 (38, [some (.ref 16), z1, z2], [.int s0], M) o
def mp_76_58 (L : Nat) (xs : Nat → Int32) (d : Nat) (s0 : Int32) (M : mm_M) (o : mm_E) : Prop := ∀ z1 z2 : Option Value, mm_Runs L xs d 76 (58, [some (.ref 16), z1, z2], [.int s0], M) o
def mp_76_80 (L : Nat) (xs : Nat → Int32) (d : Nat) (v1 : Int32) (s0 : Int32) (M : mm_M) (o : mm_E) : Prop := ∀ z2 : Option Value, mm_Runs L xs d 76 (80, [some (.ref 16), some (.int v1), z2], [.int s0], M) o
def mp_76_108 (L : Nat) (xs : Nat → Int32) (d : Nat) (v1 : Int32) (M : mm_M) (o : mm_E) : Prop := ∀ z2 : Option Value, mm_Runs L xs d 76 (108, [some (.ref 16), some (.int v1), z2], [], M) o
def mp_76_119 (L : Nat) (xs : Nat → Int32) (d : Nat) (v1 : Int32) (M : mm_M) (o : mm_E) : Prop := ∀ z2 : Option Value, mm_Runs L xs d 76 (119, [some (.ref 16), some (.int v1), z2], [], M) o
def mp_76_130 (L : Nat) (xs : Nat → Int32) (d : Nat) (v1 : Int32) (M : mm_M) (o : mm_E) : Prop := ∀ z2 : Option Value, mm_Runs L xs d 76 (130, [some (.ref 16), some (.int v1), z2], [], M) o
def mp_76_179 (L : Nat) (xs : Nat → Int32) (d : Nat) (M : mm_M) (o : mm_E) : Prop := ∀ z1 z2 : Option Value, mm_Runs L xs d 76 (179, [some (.ref 16), z1, z2], [], M) o
def mp_76_220 (L : Nat) (xs : Nat → Int32) (d : Nat) (s0 : Int32) (M : mm_M) (o : mm_E) : Prop := ∀ z1 z2 : Option Value, mm_Runs L xs d 76 (220, [some (.ref 16), z1, z2], [.int s0], M) o
def mp_76_248 (L : Nat) (xs : Nat → Int32) (d : Nat) (s0 : Int32) (M : mm_M) (o : mm_E) : Prop := ∀ z0 z1 z2 : Option Value, mm_Runs L xs d 76 (248, [z0, z1, z2], [.int s0], M) o
set_option maxRecDepth 8000 in
set_option maxHeartbeats 4000000 in
theorem ms_76_j248 {L : Nat} {xs : Nat → Int32} {d : Nat} (hd : 12 ≤ d) {s0 : Int32} {M : mm_M} {q : (Unit ⊕ Nat) × mm_M} {o : mm_E} (h : mf_76_j248 s0 M = some q) (hA : mm_A (mm_Kr mm_wv) q o) : mp_76_248 L xs d s0 M o := by
  unfold mf_76_j248 at h
  obtain ⟨d, rfl⟩ := mm_d1 (n := 11) hd
  intro z0 z1 z2
  show mm_Runs L xs (d + 1) 76 (248, [z0, z1, z2], [.int s0], M) o
  refine mm_R_call (v := mm_wv) h hA (k2 := 27) (as := [.int s0]) (r := []) rfl (fun _ => rfl) (fun q hq o ho => ms_27 (by omega) hq ho) (fun _ M1 h => ?_)
  show mm_Runs L xs (d + 1) 76 (251, [z0, z1, z2], [], M1) o
  cases h
  exact mm_R_retv rfl rfl hA
set_option maxRecDepth 8000 in
set_option maxHeartbeats 4000000 in
theorem ms_76_j220 {L : Nat} {xs : Nat → Int32} {d : Nat} (hd : 12 ≤ d) {s0 : Int32} {M : mm_M} {q : (Unit ⊕ Nat) × mm_M} {o : mm_E} (h : mf_76_j220 s0 M = some q) (hA : mm_A (mm_Kr mm_wv) q o) : mp_76_220 L xs d s0 M o := by
  unfold mf_76_j220 at h
  obtain ⟨d, rfl⟩ := mm_d1 (n := 11) hd
  intro z1 z2
  show mm_Runs L xs (d + 1) 76 (220, [some (.ref 16), z1, z2], [.int s0], M) o
  refine mm_R_call (v := mm_wv) h hA (k2 := 27) (as := [.int s0]) (r := []) rfl (fun _ => rfl) (fun q hq o ho => ms_27 (by omega) hq ho) (fun _ M1 h => ?_)
  show mm_Runs L xs (d + 1) 76 (223, [some (.ref 16), z1, z2], [], M1) o
  refine mm_Runs.seq (l := [(223, .aload_n 0, 1), (224, .getfield 39, 3), (227, .iconst 4, 1)]) (S2 := (228, [some (.ref 16), z1, z2], [.int (4 : Int32), .ref 1], M1)) (by decide +kernel) (hO := mm_own_76) rfl ?_
  refine mm_R_call (v := mm_wl) h hA (k2 := 47) (as := [.ref 1, .int (4 : Int32)]) (r := []) rfl (fun _ => rfl) (fun q hq o ho => ms_47 (by omega) hq ho) (fun r2 M3 h => ?_)
  show mm_Runs L xs (d + 1) 76 (231, [some (.ref 16), z1, z2], [.long r2], M3) o
  refine mm_Runs.seq (l := [(231, .aload_n 0, 1), (232, .getfield 43, 3), (235, .getfield 77, 3), (238, .i2l, 1)]) (S2 := (239, [some (.ref 16), z1, z2], [.long (M3.1 3 1).toInt64, .long r2], M3)) (by decide +kernel) (hO := mm_own_76) rfl ?_
  refine mm_R_leq (t := 247) rfl rfl rfl rfl (fun hc => ?_) (fun hc => ?_)
  · replace h := mm_ip hc h
    refine mm_Runs.seq (l := [(247, .iconst 0, 1)]) (S2 := (248, [some (.ref 16), z1, z2], [.int (0 : Int32)], M3)) (by decide +kernel) (hO := mm_own_76) rfl ?_
    exact (ms_76_j248 hd h hA : mp_76_248 L xs (d + 1) (0 : Int32) M3 o) (some (.ref 16)) z1 z2
  · replace h := mm_iq hc h
    refine mm_Runs.seq (l := [(243, .iconst 1, 1), (244, .goto 4, 3)]) (S2 := (248, [some (.ref 16), z1, z2], [.int (1 : Int32)], M3)) (by decide +kernel) (hO := mm_own_76) rfl ?_
    exact (ms_76_j248 hd h hA : mp_76_248 L xs (d + 1) (1 : Int32) M3 o) (some (.ref 16)) z1 z2
set_option maxRecDepth 8000 in
set_option maxHeartbeats 4000000 in
theorem ms_76_j179 {L : Nat} {xs : Nat → Int32} {d : Nat} (hd : 12 ≤ d) {M : mm_M} {q : (Unit ⊕ Nat) × mm_M} {o : mm_E} (h : mf_76_j179 M = some q) (hA : mm_A (mm_Kr mm_wv) q o) : mp_76_179 L xs d M o := by
  unfold mf_76_j179 at h
  obtain ⟨d, rfl⟩ := mm_d1 (n := 11) hd
  intro z1 z2
  show mm_Runs L xs (d + 1) 76 (179, [some (.ref 16), z1, z2], [], M) o
  refine mm_Runs.seq (l := [(179, .aload_n 0, 1), (180, .ldc 102, 2)]) (S2 := (182, [some (.ref 16), z1, z2], [.int (32768 : Int32), .ref 16], M)) (by decide +kernel) (hO := mm_own_76) rfl ?_
  refine mm_R_call (v := mm_wv) h hA (k2 := 79) (as := [.ref 16, .int (32768 : Int32)]) (r := []) rfl (fun _ => rfl) (fun q hq o ho => ms_79 (by omega) hq ho) (fun _ M1 h => ?_)
  show mm_Runs L xs (d + 1) 76 (185, [some (.ref 16), z1, z2], [], M1) o
  refine mm_Runs.seq (l := [(185, .aload_n 0, 1), (186, .getfield 39, 3), (189, .iconst 4, 1)]) (S2 := (190, [some (.ref 16), z1, z2], [.int (4 : Int32), .ref 1], M1)) (by decide +kernel) (hO := mm_own_76) rfl ?_
  refine mm_R_call (v := mm_wl) h hA (k2 := 47) (as := [.ref 1, .int (4 : Int32)]) (r := []) rfl (fun _ => rfl) (fun q hq o ho => ms_47 (by omega) hq ho) (fun r2 M3 h => ?_)
  show mm_Runs L xs (d + 1) 76 (193, [some (.ref 16), z1, z2], [.long r2], M3) o
  refine mm_Runs.seq (l := [(193, .l2i, 1), (194, .aload_n 0, 1), (195, .getfield 43, 3), (198, .getfield 72, 3), (201, .iconst 0, 1), (202, .aload_n 0, 1), (203, .getfield 43, 3), (206, .getfield 77, 3)]) (S2 := (209, [some (.ref 16), z1, z2], [.int (M3.1 3 1), .int (0 : Int32), .ref 4, .int r2.toInt32], M3)) (by decide +kernel) (hO := mm_own_76) rfl ?_
  refine mm_R_call (v := mm_wi) h hA (k2 := 28) (as := [.ref 4, .int (0 : Int32), .int (M3.1 3 1)]) (r := [.int r2.toInt32]) rfl (fun _ => rfl) (fun q hq o ho => ms_28 rfl (by omega) hq ho) (fun r4 M5 h => ?_)
  show mm_Runs L xs (d + 1) 76 (212, [some (.ref 16), z1, z2], [.int r4, .int r2.toInt32], M5) o
  refine mm_R_ieq (t := 219) rfl rfl rfl (fun hc => ?_) (fun hc => ?_)
  · replace h := mm_ip hc h
    refine mm_Runs.seq (l := [(219, .iconst 0, 1)]) (S2 := (220, [some (.ref 16), z1, z2], [.int (0 : Int32)], M5)) (by decide +kernel) (hO := mm_own_76) rfl ?_
    exact (ms_76_j220 hd h hA : mp_76_220 L xs (d + 1) (0 : Int32) M5 o) z1 z2
  · replace h := mm_iq hc h
    refine mm_Runs.seq (l := [(215, .iconst 1, 1), (216, .goto 4, 3)]) (S2 := (220, [some (.ref 16), z1, z2], [.int (1 : Int32)], M5)) (by decide +kernel) (hO := mm_own_76) rfl ?_
    exact (ms_76_j220 hd h hA : mp_76_220 L xs (d + 1) (1 : Int32) M5 o) z1 z2
def mp_76_176 (L : Nat) (xs : Nat → Int32) (d : Nat) (s0 : Int32) (M : mm_M) (o : mm_E) : Prop := ∀ z1 z2 : Option Value, mm_Runs L xs d 76 (176, [some (.ref 16), z1, z2], [.int s0], M) o
set_option maxRecDepth 8000 in
set_option maxHeartbeats 4000000 in
theorem ms_76_j176 {L : Nat} {xs : Nat → Int32} {d : Nat} (hd : 12 ≤ d) {s0 : Int32} {M : mm_M} {q : (Unit ⊕ Nat) × mm_M} {o : mm_E} (h : mf_76_j176 s0 M = some q) (hA : mm_A (mm_Kr mm_wv) q o) : mp_76_176 L xs d s0 M o := by
  unfold mf_76_j176 at h
  obtain ⟨d, rfl⟩ := mm_d1 (n := 11) hd
  intro z1 z2
  show mm_Runs L xs (d + 1) 76 (176, [some (.ref 16), z1, z2], [.int s0], M) o
  refine mm_R_call (v := mm_wv) h hA (k2 := 27) (as := [.int s0]) (r := []) rfl (fun _ => rfl) (fun q hq o ho => ms_27 (by omega) hq ho) (fun _ M1 h => ?_)
  show mm_Runs L xs (d + 1) 76 (179, [some (.ref 16), z1, z2], [], M1) o
  exact (ms_76_j179 hd h hA : mp_76_179 L xs (d + 1) M1 o) z1 z2
set_option maxRecDepth 8000 in
set_option maxHeartbeats 4000000 in
theorem ms_76_j130 {L : Nat} {xs : Nat → Int32} {d : Nat} (hd : 12 ≤ d) {v1 : Int32} {M : mm_M} {q : (Unit ⊕ Nat) × mm_M} {o : mm_E} (h : mf_76_j130 v1 M = some q) (hA : mm_A (mm_Kr mm_wv) q o) : mp_76_130 L xs d v1 M o := by
  unfold mf_76_j130 at h
  obtain ⟨d, rfl⟩ := mm_d1 (n := 11) hd
  intro z2
  show mm_Runs L xs (d + 1) 76 (130, [some (.ref 16), some (.int v1), z2], [], M) o
  refine mm_Runs.seq (l := [(130, .iload_n 1, 1), (131, .iconst 2, 1), (132, .iand, 1)]) (S2 := (133, [some (.ref 16), some (.int v1), z2], [.int (v1 &&& (2 : Int32))], M)) (by decide +kernel) (hO := mm_own_76) rfl ?_
  refine mm_R_zeq (t := 179) rfl rfl rfl (fun hc => ?_) (fun hc => ?_)
  · replace h := mm_ip hc h
    exact (ms_76_j179 hd h hA : mp_76_179 L xs (d + 1) M o) (some (.int v1)) z2
  · replace h := mm_iq hc h
    refine mm_Runs.seq (l := [(136, .aload_n 0, 1), (137, .getfield 39, 3), (140, .getfield 94, 3), (143, .iconst 0, 1), (144, .aload_n 0, 1), (145, .getfield 39, 3), (148, .getfield 95, 3)]) (S2 := (151, [some (.ref 16), some (.int v1), z2], [.int (M.1 1 2), .int (0 : Int32), .ref 2], M)) (by decide +kernel) (hO := mm_own_76) rfl ?_
    refine mm_R_call (v := mm_wi) h hA (k2 := 28) (as := [.ref 2, .int (0 : Int32), .int (M.1 1 2)]) (r := []) rfl (fun _ => rfl) (fun q hq o ho => ms_28 rfl (by omega) hq ho) (fun r1 M2 h => ?_)
    show mm_Runs L xs (d + 1) 76 (154, [some (.ref 16), some (.int v1), z2], [.int r1], M2) o
    refine mm_Runs.seq (l := [(154, .ldc 101, 2), (156, .iand, 1), (157, .istore_n 2, 1), (158, .aload_n 0, 1), (159, .getfield 39, 3), (162, .iconst 2, 1)]) (S2 := (163, [some (.ref 16), some (.int v1), some (.int (r1 &&& (65535 : Int32)))], [.int (2 : Int32), .ref 1], M2)) (by decide +kernel) (hO := mm_own_76) rfl ?_
    refine mm_R_call (v := mm_wl) h hA (k2 := 47) (as := [.ref 1, .int (2 : Int32)]) (r := []) rfl (fun _ => rfl) (fun q hq o ho => ms_47 (by omega) hq ho) (fun r3 M4 h => ?_)
    show mm_Runs L xs (d + 1) 76 (166, [some (.ref 16), some (.int v1), some (.int (r1 &&& (65535 : Int32)))], [.long r3], M4) o
    refine mm_Runs.seq (l := [(166, .l2i, 1), (167, .iload_n 2, 1)]) (S2 := (168, [some (.ref 16), some (.int v1), some (.int (r1 &&& (65535 : Int32)))], [.int (r1 &&& (65535 : Int32)), .int r3.toInt32], M4)) (by decide +kernel) (hO := mm_own_76) rfl ?_
    refine mm_R_ieq (t := 175) rfl rfl rfl (fun hc => ?_) (fun hc => ?_)
    · replace h := mm_ip hc h
      refine mm_Runs.seq (l := [(175, .iconst 0, 1)]) (S2 := (176, [some (.ref 16), some (.int v1), some (.int (r1 &&& (65535 : Int32)))], [.int (0 : Int32)], M4)) (by decide +kernel) (hO := mm_own_76) rfl ?_
      exact (ms_76_j176 hd h hA : mp_76_176 L xs (d + 1) (0 : Int32) M4 o) (some (.int v1)) (some (.int (r1 &&& (65535 : Int32))))
    · replace h := mm_iq hc h
      refine mm_Runs.seq (l := [(171, .iconst 1, 1), (172, .goto 4, 3)]) (S2 := (176, [some (.ref 16), some (.int v1), some (.int (r1 &&& (65535 : Int32)))], [.int (1 : Int32)], M4)) (by decide +kernel) (hO := mm_own_76) rfl ?_
      exact (ms_76_j176 hd h hA : mp_76_176 L xs (d + 1) (1 : Int32) M4 o) (some (.int v1)) (some (.int (r1 &&& (65535 : Int32))))
set_option maxRecDepth 8000 in
set_option maxHeartbeats 4000000 in
theorem ms_76_j119 {L : Nat} {xs : Nat → Int32} {d : Nat} (hd : 12 ≤ d) {v1 : Int32} {M : mm_M} {q : (Unit ⊕ Nat) × mm_M} {o : mm_E} (h : mf_76_j119 v1 M = some q) (hA : mm_A (mm_Kr mm_wv) q o) : mp_76_119 L xs d v1 M o := by
  unfold mf_76_j119 at h
  obtain ⟨d, rfl⟩ := mm_d1 (n := 11) hd
  intro z2
  show mm_Runs L xs (d + 1) 76 (119, [some (.ref 16), some (.int v1), z2], [], M) o
  refine mm_Runs.seq (l := [(119, .iload_n 1, 1), (120, .bipush 16, 2), (122, .iand, 1)]) (S2 := (123, [some (.ref 16), some (.int v1), z2], [.int (v1 &&& (16 : Int32))], M)) (by decide +kernel) (hO := mm_own_76) rfl ?_
  refine mm_R_zeq (t := 130) rfl rfl rfl (fun hc => ?_) (fun hc => ?_)
  · replace h := mm_ip hc h
    exact (ms_76_j130 hd h hA : mp_76_130 L xs (d + 1) v1 M o) z2
  · replace h := mm_iq hc h
    refine mm_Runs.seq (l := [(126, .aload_n 0, 1)]) (S2 := (127, [some (.ref 16), some (.int v1), z2], [.ref 16], M)) (by decide +kernel) (hO := mm_own_76) rfl ?_
    refine mm_R_call (v := mm_wv) h hA (k2 := 78) (as := [.ref 16]) (r := []) rfl (fun _ => rfl) (fun q hq o ho => ms_78 (by omega) hq ho) (fun _ M1 h => ?_)
    show mm_Runs L xs (d + 1) 76 (130, [some (.ref 16), some (.int v1), z2], [], M1) o
    exact (ms_76_j130 hd h hA : mp_76_130 L xs (d + 1) v1 M1 o) z2
set_option maxRecDepth 8000 in
set_option maxHeartbeats 4000000 in
theorem ms_76_j108 {L : Nat} {xs : Nat → Int32} {d : Nat} (hd : 12 ≤ d) {v1 : Int32} {M : mm_M} {q : (Unit ⊕ Nat) × mm_M} {o : mm_E} (h : mf_76_j108 v1 M = some q) (hA : mm_A (mm_Kr mm_wv) q o) : mp_76_108 L xs d v1 M o := by
  unfold mf_76_j108 at h
  obtain ⟨d, rfl⟩ := mm_d1 (n := 11) hd
  intro z2
  show mm_Runs L xs (d + 1) 76 (108, [some (.ref 16), some (.int v1), z2], [], M) o
  refine mm_Runs.seq (l := [(108, .iload_n 1, 1), (109, .bipush 8, 2), (111, .iand, 1)]) (S2 := (112, [some (.ref 16), some (.int v1), z2], [.int (v1 &&& (8 : Int32))], M)) (by decide +kernel) (hO := mm_own_76) rfl ?_
  refine mm_R_zeq (t := 119) rfl rfl rfl (fun hc => ?_) (fun hc => ?_)
  · replace h := mm_ip hc h
    exact (ms_76_j119 hd h hA : mp_76_119 L xs (d + 1) v1 M o) z2
  · replace h := mm_iq hc h
    refine mm_Runs.seq (l := [(115, .aload_n 0, 1)]) (S2 := (116, [some (.ref 16), some (.int v1), z2], [.ref 16], M)) (by decide +kernel) (hO := mm_own_76) rfl ?_
    refine mm_R_call (v := mm_wv) h hA (k2 := 78) (as := [.ref 16]) (r := []) rfl (fun _ => rfl) (fun q hq o ho => ms_78 (by omega) hq ho) (fun _ M1 h => ?_)
    show mm_Runs L xs (d + 1) 76 (119, [some (.ref 16), some (.int v1), z2], [], M1) o
    exact (ms_76_j119 hd h hA : mp_76_119 L xs (d + 1) v1 M1 o) z2
set_option maxRecDepth 8000 in
set_option maxHeartbeats 4000000 in
theorem ms_76_j80 {L : Nat} {xs : Nat → Int32} {d : Nat} (hd : 12 ≤ d) {v1 : Int32} {s0 : Int32} {M : mm_M} {q : (Unit ⊕ Nat) × mm_M} {o : mm_E} (h : mf_76_j80 v1 s0 M = some q) (hA : mm_A (mm_Kr mm_wv) q o) : mp_76_80 L xs d v1 s0 M o := by
  unfold mf_76_j80 at h
  obtain ⟨d, rfl⟩ := mm_d1 (n := 11) hd
  intro z2
  show mm_Runs L xs (d + 1) 76 (80, [some (.ref 16), some (.int v1), z2], [.int s0], M) o
  refine mm_R_call (v := mm_wv) h hA (k2 := 27) (as := [.int s0]) (r := []) rfl (fun _ => rfl) (fun q hq o ho => ms_27 (by omega) hq ho) (fun _ M1 h => ?_)
  show mm_Runs L xs (d + 1) 76 (83, [some (.ref 16), some (.int v1), z2], [], M1) o
  refine mm_Runs.seq (l := [(83, .aload_n 0, 1), (84, .bipush 6, 2)]) (S2 := (86, [some (.ref 16), some (.int v1), z2], [.int (6 : Int32), .ref 16], M1)) (by decide +kernel) (hO := mm_own_76) rfl ?_
  refine mm_R_call (v := mm_wv) h hA (k2 := 77) (as := [.ref 16, .int (6 : Int32)]) (r := []) rfl (fun _ => rfl) (fun q hq o ho => ms_77 (by omega) hq ho) (fun _ M2 h => ?_)
  show mm_Runs L xs (d + 1) 76 (89, [some (.ref 16), some (.int v1), z2], [], M2) o
  refine mm_Runs.seq (l := [(89, .iload_n 1, 1), (90, .iconst 4, 1), (91, .iand, 1)]) (S2 := (92, [some (.ref 16), some (.int v1), z2], [.int (v1 &&& (4 : Int32))], M2)) (by decide +kernel) (hO := mm_own_76) rfl ?_
  refine mm_R_zeq (t := 108) rfl rfl rfl (fun hc => ?_) (fun hc => ?_)
  · replace h := mm_ip hc h
    exact (ms_76_j108 hd h hA : mp_76_108 L xs (d + 1) v1 M2 o) z2
  · replace h := mm_iq hc h
    refine mm_Runs.seq (l := [(95, .aload_n 0, 1), (96, .aload_n 0, 1), (97, .getfield 39, 3), (100, .iconst 2, 1)]) (S2 := (101, [some (.ref 16), some (.int v1), z2], [.int (2 : Int32), .ref 1, .ref 16], M2)) (by decide +kernel) (hO := mm_own_76) rfl ?_
    refine mm_R_call (v := mm_wl) h hA (k2 := 47) (as := [.ref 1, .int (2 : Int32)]) (r := [.ref 16]) rfl (fun _ => rfl) (fun q hq o ho => ms_47 (by omega) hq ho) (fun r3 M4 h => ?_)
    show mm_Runs L xs (d + 1) 76 (104, [some (.ref 16), some (.int v1), z2], [.long r3, .ref 16], M4) o
    refine mm_Runs.seq (l := [(104, .l2i, 1)]) (S2 := (105, [some (.ref 16), some (.int v1), z2], [.int r3.toInt32, .ref 16], M4)) (by decide +kernel) (hO := mm_own_76) rfl ?_
    refine mm_R_call (v := mm_wv) h hA (k2 := 77) (as := [.ref 16, .int r3.toInt32]) (r := []) rfl (fun _ => rfl) (fun q hq o ho => ms_77 (by omega) hq ho) (fun _ M5 h => ?_)
    show mm_Runs L xs (d + 1) 76 (108, [some (.ref 16), some (.int v1), z2], [], M5) o
    exact (ms_76_j108 hd h hA : mp_76_108 L xs (d + 1) v1 M5 o) z2
set_option maxRecDepth 8000 in
set_option maxHeartbeats 4000000 in
theorem ms_76_j58 {L : Nat} {xs : Nat → Int32} {d : Nat} (hd : 12 ≤ d) {s0 : Int32} {M : mm_M} {q : (Unit ⊕ Nat) × mm_M} {o : mm_E} (h : mf_76_j58 s0 M = some q) (hA : mm_A (mm_Kr mm_wv) q o) : mp_76_58 L xs d s0 M o := by
  unfold mf_76_j58 at h
  obtain ⟨d, rfl⟩ := mm_d1 (n := 11) hd
  intro z1 z2
  show mm_Runs L xs (d + 1) 76 (58, [some (.ref 16), z1, z2], [.int s0], M) o
  refine mm_R_call (v := mm_wv) h hA (k2 := 27) (as := [.int s0]) (r := []) rfl (fun _ => rfl) (fun q hq o ho => ms_27 (by omega) hq ho) (fun _ M1 h => ?_)
  show mm_Runs L xs (d + 1) 76 (61, [some (.ref 16), z1, z2], [], M1) o
  refine mm_Runs.seq (l := [(61, .aload_n 0, 1), (62, .getfield 39, 3)]) (S2 := (65, [some (.ref 16), z1, z2], [.ref 1], M1)) (by decide +kernel) (hO := mm_own_76) rfl ?_
  refine mm_R_call (v := mm_wi) h hA (k2 := 44) (as := [.ref 1]) (r := []) rfl (fun _ => rfl) (fun q hq o ho => ms_44 (by omega) hq ho) (fun r2 M3 h => ?_)
  show mm_Runs L xs (d + 1) 76 (68, [some (.ref 16), z1, z2], [.int r2], M3) o
  refine mm_Runs.seq (l := [(68, .istore_n 1, 1), (69, .iload_n 1, 1), (70, .bipush 31, 2)]) (S2 := (72, [some (.ref 16), some (.int r2), z2], [.int (31 : Int32), .int r2], M3)) (by decide +kernel) (hO := mm_own_76) rfl ?_
  refine mm_R_ile (t := 79) rfl rfl rfl (fun hc => ?_) (fun hc => ?_)
  · replace h := mm_ip hc h
    refine mm_Runs.seq (l := [(75, .iconst 1, 1), (76, .goto 4, 3)]) (S2 := (80, [some (.ref 16), some (.int r2), z2], [.int (1 : Int32)], M3)) (by decide +kernel) (hO := mm_own_76) rfl ?_
    exact (ms_76_j80 hd h hA : mp_76_80 L xs (d + 1) r2 (1 : Int32) M3 o) z2
  · replace h := mm_iq hc h
    refine mm_Runs.seq (l := [(79, .iconst 0, 1)]) (S2 := (80, [some (.ref 16), some (.int r2), z2], [.int (0 : Int32)], M3)) (by decide +kernel) (hO := mm_own_76) rfl ?_
    exact (ms_76_j80 hd h hA : mp_76_80 L xs (d + 1) r2 (0 : Int32) M3 o) z2
set_option maxRecDepth 8000 in
set_option maxHeartbeats 4000000 in
theorem ms_76_j38 {L : Nat} {xs : Nat → Int32} {d : Nat} (hd : 12 ≤ d) {s0 : Int32} {M : mm_M} {q : (Unit ⊕ Nat) × mm_M} {o : mm_E} (h : mf_76_j38 s0 M = some q) (hA : mm_A (mm_Kr mm_wv) q o) : mp_76_38 L xs d s0 M o := by
  unfold mf_76_j38 at h
  obtain ⟨d, rfl⟩ := mm_d1 (n := 11) hd
  intro z1 z2
  show mm_Runs L xs (d + 1) 76 (38, [some (.ref 16), z1, z2], [.int s0], M) o
  refine mm_R_call (v := mm_wv) h hA (k2 := 27) (as := [.int s0]) (r := []) rfl (fun _ => rfl) (fun q hq o ho => ms_27 (by omega) hq ho) (fun _ M1 h => ?_)
  show mm_Runs L xs (d + 1) 76 (41, [some (.ref 16), z1, z2], [], M1) o
  refine mm_Runs.seq (l := [(41, .aload_n 0, 1), (42, .getfield 39, 3)]) (S2 := (45, [some (.ref 16), z1, z2], [.ref 1], M1)) (by decide +kernel) (hO := mm_own_76) rfl ?_
  refine mm_R_call (v := mm_wi) h hA (k2 := 44) (as := [.ref 1]) (r := []) rfl (fun _ => rfl) (fun q hq o ho => ms_44 (by omega) hq ho) (fun r2 M3 h => ?_)
  show mm_Runs L xs (d + 1) 76 (48, [some (.ref 16), z1, z2], [.int r2], M3) o
  refine mm_Runs.seq (l := [(48, .bipush 8, 2)]) (S2 := (50, [some (.ref 16), z1, z2], [.int (8 : Int32), .int r2], M3)) (by decide +kernel) (hO := mm_own_76) rfl ?_
  refine mm_R_ieq (t := 57) rfl rfl rfl (fun hc => ?_) (fun hc => ?_)
  · replace h := mm_ip hc h
    refine mm_Runs.seq (l := [(57, .iconst 0, 1)]) (S2 := (58, [some (.ref 16), z1, z2], [.int (0 : Int32)], M3)) (by decide +kernel) (hO := mm_own_76) rfl ?_
    exact (ms_76_j58 hd h hA : mp_76_58 L xs (d + 1) (0 : Int32) M3 o) z1 z2
  · replace h := mm_iq hc h
    refine mm_Runs.seq (l := [(53, .iconst 1, 1), (54, .goto 4, 3)]) (S2 := (58, [some (.ref 16), z1, z2], [.int (1 : Int32)], M3)) (by decide +kernel) (hO := mm_own_76) rfl ?_
    exact (ms_76_j58 hd h hA : mp_76_58 L xs (d + 1) (1 : Int32) M3 o) z1 z2
set_option maxRecDepth 8000 in
set_option maxHeartbeats 4000000 in
theorem ms_76_j17 {L : Nat} {xs : Nat → Int32} {d : Nat} (hd : 12 ≤ d) {s0 : Int32} {M : mm_M} {q : (Unit ⊕ Nat) × mm_M} {o : mm_E} (h : mf_76_j17 s0 M = some q) (hA : mm_A (mm_Kr mm_wv) q o) : mp_76_17 L xs d s0 M o := by
  unfold mf_76_j17 at h
  obtain ⟨d, rfl⟩ := mm_d1 (n := 11) hd
  intro z1 z2
  show mm_Runs L xs (d + 1) 76 (17, [some (.ref 16), z1, z2], [.int s0], M) o
  refine mm_R_call (v := mm_wv) h hA (k2 := 27) (as := [.int s0]) (r := []) rfl (fun _ => rfl) (fun q hq o ho => ms_27 (by omega) hq ho) (fun _ M1 h => ?_)
  show mm_Runs L xs (d + 1) 76 (20, [some (.ref 16), z1, z2], [], M1) o
  refine mm_Runs.seq (l := [(20, .aload_n 0, 1), (21, .getfield 39, 3)]) (S2 := (24, [some (.ref 16), z1, z2], [.ref 1], M1)) (by decide +kernel) (hO := mm_own_76) rfl ?_
  refine mm_R_call (v := mm_wi) h hA (k2 := 44) (as := [.ref 1]) (r := []) rfl (fun _ => rfl) (fun q hq o ho => ms_44 (by omega) hq ho) (fun r2 M3 h => ?_)
  show mm_Runs L xs (d + 1) 76 (27, [some (.ref 16), z1, z2], [.int r2], M3) o
  refine mm_Runs.seq (l := [(27, .sipush 139, 3)]) (S2 := (30, [some (.ref 16), z1, z2], [.int (139 : Int32), .int r2], M3)) (by decide +kernel) (hO := mm_own_76) rfl ?_
  refine mm_R_ieq (t := 37) rfl rfl rfl (fun hc => ?_) (fun hc => ?_)
  · replace h := mm_ip hc h
    refine mm_Runs.seq (l := [(37, .iconst 0, 1)]) (S2 := (38, [some (.ref 16), z1, z2], [.int (0 : Int32)], M3)) (by decide +kernel) (hO := mm_own_76) rfl ?_
    exact (ms_76_j38 hd h hA : mp_76_38 L xs (d + 1) (0 : Int32) M3 o) z1 z2
  · replace h := mm_iq hc h
    refine mm_Runs.seq (l := [(33, .iconst 1, 1), (34, .goto 4, 3)]) (S2 := (38, [some (.ref 16), z1, z2], [.int (1 : Int32)], M3)) (by decide +kernel) (hO := mm_own_76) rfl ?_
    exact (ms_76_j38 hd h hA : mp_76_38 L xs (d + 1) (1 : Int32) M3 o) z1 z2
set_option maxRecDepth 8000 in
set_option maxHeartbeats 4000000 in
theorem ms_76 {L : Nat} {xs : Nat → Int32} {d : Nat} (hd : 12 ≤ d) {M : mm_M} {q : (Unit ⊕ Nat) × mm_M} {o : mm_E} (h : mf_76 M = some q) (hA : mm_A (mm_Kr mm_wv) q o) : mm_Runs L xs d 76 (0, mm_ent (mm_ml 76) [.ref 16], [], M) o := by
  unfold mf_76 at h
  obtain ⟨d, rfl⟩ := mm_d1 (n := 11) hd
  show mm_Runs L xs (d + 1) 76 (0, [some (.ref 16), none, none], [], M) o
  refine mm_Runs.seq (l := [(0, .aload_n 0, 1), (1, .getfield 39, 3)]) (S2 := (4, [some (.ref 16), none, none], [.ref 1], M)) (by decide +kernel) (hO := mm_own_76) rfl ?_
  refine mm_R_call (v := mm_wi) h hA (k2 := 44) (as := [.ref 1]) (r := []) rfl (fun _ => rfl) (fun q hq o ho => ms_44 (by omega) hq ho) (fun r1 M2 h => ?_)
  show mm_Runs L xs (d + 1) 76 (7, [some (.ref 16), none, none], [.int r1], M2) o
  refine mm_Runs.seq (l := [(7, .bipush 31, 2)]) (S2 := (9, [some (.ref 16), none, none], [.int (31 : Int32), .int r1], M2)) (by decide +kernel) (hO := mm_own_76) rfl ?_
  refine mm_R_ieq (t := 16) rfl rfl rfl (fun hc => ?_) (fun hc => ?_)
  · replace h := mm_ip hc h
    refine mm_Runs.seq (l := [(16, .iconst 0, 1)]) (S2 := (17, [some (.ref 16), none, none], [.int (0 : Int32)], M2)) (by decide +kernel) (hO := mm_own_76) rfl ?_
    exact (ms_76_j17 hd h hA : mp_76_17 L xs (d + 1) (0 : Int32) M2 o) none none
  · replace h := mm_iq hc h
    refine mm_Runs.seq (l := [(12, .iconst 1, 1), (13, .goto 4, 3)]) (S2 := (17, [some (.ref 16), none, none], [.int (1 : Int32)], M2)) (by decide +kernel) (hO := mm_own_76) rfl ?_
    exact (ms_76_j17 hd h hA : mp_76_17 L xs (d + 1) (1 : Int32) M2 o) none none
-- 34: PlainPacks.topBit(I)I (depth 0)
theorem mm_own_34 : mm_own 34 = 0 := rfl
def mp_34_6 (L : Nat) (xs : Nat → Int32) (d : Nat) (v1 : Int32) (v2 : Int32) (M : mm_M) (o : mm_E) : Prop := ∀ z0 : Option Value, mm_Runs L xs d 34 (6, [z0, some (.int v1), some (.int v2)], [], M) o
def mp_34_20 (L : Nat) (xs : Nat → Int32) (d : Nat) (v1 : Int32) (M : mm_M) (o : mm_E) : Prop := ∀ z0 z2 : Option Value, mm_Runs L xs d 34 (20, [z0, some (.int v1), z2], [], M) o
set_option maxRecDepth 8000 in
set_option maxHeartbeats 4000000 in
theorem ms_34_b6 {L : Nat} {xs : Nat → Int32} {d : Nat} (hd : 0 ≤ d) {v1 : Int32} {v2 : Int32} {M : mm_M} {q : (((Int32 × Int32) ⊕ (Int32)) ⊕ Nat) × mm_M} {o : mm_E} (h : mf_34_b6 v1 v2 M = some q) (hA : mm_A (mm_K2 (fun s M o => mp_34_6 L xs (d) s.1 s.2 M o) (fun r M o => mp_34_20 L xs (d) r M o)) q o) : mp_34_6 L xs d v1 v2 M o := by
  unfold mf_34_b6 at h
  intro z0
  show mm_Runs L xs (d) 34 (6, [z0, some (.int v1), some (.int v2)], [], M) o
  refine mm_Runs.seq (l := [(6, .iload_n 2, 1)]) (S2 := (7, [z0, some (.int v1), some (.int v2)], [.int v2], M)) (by decide +kernel) (hO := mm_own_34) rfl ?_
  refine mm_R_zle (t := 20) rfl rfl rfl (fun hc => ?_) (fun hc => ?_)
  · replace h := mm_ip hc h
    refine mm_Runs.seq (l := [(10, .iinc 1 1, 3), (13, .iload_n 2, 1), (14, .iconst 1, 1), (15, .ishr, 1), (16, .istore_n 2, 1), (17, .goto (-11), 3)]) (S2 := (6, [(mm_no2 z0), some (.int (v1 + (1 : Int32))), some (.int (mm_shr v2 (1 : Int32)))], [], M)) (by decide +kernel) (hO := mm_own_34) rfl ?_
    cases h
    exact (show mp_34_6 L xs (d) (v1 + (1 : Int32)) (mm_shr v2 (1 : Int32)) M o from hA) ((mm_no2 z0))
  · replace h := mm_iq hc h
    cases h
    exact (show mp_34_20 L xs (d) v1 M o from hA) z0 (some (.int v2))
theorem ms_34_L6 {L : Nat} {xs : Nat → Int32} {d : Nat} (hd : 0 ≤ d) {v1 : Int32} {v2 : Int32} {β : Type} {K : β → mm_M → mm_E → Prop} {F : (Int32) → mm_M → mm_O β} {M : mm_M} {q : (β ⊕ Nat) × mm_M} {o : mm_E} (h : mm_B (mf_34_L6 (v1, v2) M) F = some q) (hA : mm_A K q o) (hx : ∀ (r : (Int32)) (M2 : mm_M), F r M2 = some q → (fun r M o => mp_34_20 L xs (d) r M o) r M2 o) : mp_34_6 L xs d v1 v2 M o := by
  unfold mf_34_L6 at h
  exact mm_R_loop (step := (fun s M => mf_34_b6 s.1 s.2 M)) (s := (v1, v2)) (M := M) (P := (fun s M o => mp_34_6 L xs (d) s.1 s.2 M o)) (X := (fun r M o => mp_34_20 L xs (d) r M o)) h hA (fun s M q hq hA => ms_34_b6 (v1 := s.1) (v2 := s.2) (M := M) (q := q) hd hq hA) hx
set_option maxRecDepth 8000 in
set_option maxHeartbeats 4000000 in
theorem ms_34 {L : Nat} {xs : Nat → Int32} {d : Nat} (hd : 0 ≤ d) {v0 : Int32} {M : mm_M} {q : (Int32 ⊕ Nat) × mm_M} {o : mm_E} (h : mf_34 v0 M = some q) (hA : mm_A (mm_Kr mm_wi) q o) : mm_Runs L xs d 34 (0, mm_ent (mm_ml 34) [.int v0], [], M) o := by
  unfold mf_34 at h
  show mm_Runs L xs (d) 34 (0, [some (.int v0), none, none], [], M) o
  refine mm_Runs.seq (l := [(0, .iconst 0, 1), (1, .istore_n 1, 1), (2, .iload_n 0, 1), (3, .iconst 1, 1), (4, .ishr, 1), (5, .istore_n 2, 1)]) (S2 := (6, [some (.int v0), some (.int (0 : Int32)), some (.int (mm_shr v0 (1 : Int32)))], [], M)) (by decide +kernel) (hO := mm_own_34) rfl ?_
  have hp : mp_34_6 L xs (d) (0 : Int32) (mm_shr v0 (1 : Int32)) M o := by
    refine ms_34_L6 hd h hA (fun r2 M1 h => ?_)
    intro y3 y4
    show mm_Runs L xs (d) 34 (20, [y3, some (.int r2), y4], [], M1) o
    refine mm_Runs.seq (l := [(20, .iload_n 1, 1)]) (S2 := (21, [y3, some (.int r2), y4], [.int r2], M1)) (by decide +kernel) (hO := mm_own_34) rfl ?_
    cases h
    exact mm_R_reti rfl rfl hA
  exact hp (some (.int v0))
-- 105: PlainPacks$Words.forget()V (depth 1)
theorem mm_own_105 : mm_own 105 = 8 := rfl
set_option maxRecDepth 8000 in
set_option maxHeartbeats 4000000 in
theorem ms_105 {L : Nat} {xs : Nat → Int32} {d : Nat} (hd : 1 ≤ d) {M : mm_M} {q : (Unit ⊕ Nat) × mm_M} {o : mm_E} (h : mf_105 M = some q) (hA : mm_A (mm_Kr mm_wv) q o) : mm_Runs L xs d 105 (0, mm_ent (mm_ml 105) [.ref 35], [], M) o := by
  unfold mf_105 at h
  obtain ⟨d, rfl⟩ := mm_d1 (n := 0) hd
  show mm_Runs L xs (d + 1) 105 (0, [some (.ref 35)], [], M) o
  refine mm_Runs.seq (l := [(0, .aload_n 0, 1), (1, .aload_n 0, 1), (2, .getfield 39, 3)]) (S2 := (5, [some (.ref 35)], [.int (M.1 35 8), .ref 35], M)) (by decide +kernel) (hO := mm_own_105) rfl ?_
  refine mm_R_call (v := mm_wi) h hA (k2 := 34) (as := [.int (M.1 35 8)]) (r := [.ref 35]) rfl (fun _ => rfl) (fun q hq o ho => ms_34 (by omega) hq ho) (fun r1 M2 h => ?_)
  show mm_Runs L xs (d + 1) 105 (8, [some (.ref 35)], [.int r1, .ref 35], M2) o
  refine mm_Runs.seq (l := [(8, .iconst 1, 1), (9, .iadd, 1), (10, .putfield 53, 3), (13, .aload_n 0, 1), (14, .aload_n 0, 1), (15, .getfield 39, 3), (18, .iconst 2, 1), (19, .iadd, 1), (20, .putfield 56, 3), (23, .aload_n 0, 1), (24, .iconst 1, 1), (25, .putfield 59, 3)]) (S2 := (28, [some (.ref 35)], [], (mm_pi (mm_pi (mm_pi M2 35 9 (r1 + (1 : Int32))) 35 10 ((M2.1 35 8) + (2 : Int32))) 35 12 (1 : Int32)))) (by decide +kernel) (hO := mm_own_105) rfl ?_
  cases h
  exact mm_R_retv rfl rfl hA
