/-! MEANINGS ARE SOUND 26 -/
-- 60: PlainPacks$Writer.high(JI)V (depth 1)
theorem mm_own_60 : mm_own 60 = 3 := rfl
def mp_60_5 (L : Nat) (xs : Nat → Int32) (d : Nat) (v1 : Int64) (v4 : Int32) (M : mm_M) (o : mm_E) : Prop := ∀ z2 z3 : Option Value, mm_Runs L xs d 60 (5, [some (.ref 5), some (.long v1), z2, z3, some (.int v4)], [], M) o
def mp_60_32 (L : Nat) (xs : Nat → Int32) (d : Nat) (M : mm_M) (o : mm_E) : Prop := ∀ z0 z1 z2 z3 z4 : Option Value, mm_Runs L xs d 60 (32, [z0, z1, z2, z3, z4], [], M) o
set_option maxRecDepth 8000 in
set_option maxHeartbeats 4000000 in
theorem ms_60_b5 {L : Nat} {xs : Nat → Int32} {d : Nat} (hd : 1 ≤ d) {v1 : Int64} {v4 : Int32} {M : mm_M} {q : (((Int32) ⊕ (Unit)) ⊕ Nat) × mm_M} {o : mm_E} (h : mf_60_b5 v1 v4 M = some q) (hA : mm_A (mm_K2 (fun s M o => mp_60_5 L xs (d) v1 s M o) (fun r M o => mp_60_32 L xs (d) M o)) q o) : mp_60_5 L xs d v1 v4 M o := by
  unfold mf_60_b5 at h
  obtain ⟨d, rfl⟩ := mm_d1 (n := 0) hd
  intro z2 z3
  show mm_Runs L xs (d + 1) 60 (5, [some (.ref 5), some (.long v1), z2, z3, some (.int v4)], [], M) o
  refine mm_Runs.seq (l := [(5, .iload 4, 2)]) (S2 := (7, [some (.ref 5), some (.long v1), z2, z3, some (.int v4)], [.int v4], M)) (by decide +kernel) (hO := mm_own_60) rfl ?_
  refine mm_R_zlt (t := 32) rfl rfl rfl (fun hc => ?_) (fun hc => ?_)
  · replace h := mm_ip hc h
    cases h
    exact (show mp_60_32 L xs (d + 1) M o from hA) (some (.ref 5)) (some (.long v1)) z2 z3 (some (.int v4))
  · replace h := mm_iq hc h
    refine mm_Runs.seq (l := [(10, .aload_n 0, 1), (11, .lload_n 1, 1), (12, .bipush 8, 2), (14, .iload 4, 2), (16, .imul, 1), (17, .lushr, 1), (18, .ldc2_w 39, 3), (21, .land, 1), (22, .l2i, 1)]) (S2 := (23, [some (.ref 5), some (.long v1), z2, z3, some (.int v4)], [.int ((mm_lush v1 ((8 : Int32) * v4)) &&& (255 : Int64)).toInt32, .ref 5], M)) (by decide +kernel) (hO := mm_own_60) rfl ?_
    refine mm_R_call (v := mm_wv) h hA (k2 := 57) (as := [.ref 5, .int ((mm_lush v1 ((8 : Int32) * v4)) &&& (255 : Int64)).toInt32]) (r := []) rfl (fun _ => rfl) (fun q hq o ho => ms_57 (by omega) hq ho) (fun _ M1 h => ?_)
    show mm_Runs L xs (d + 1) 60 (26, [some (.ref 5), some (.long v1), z2, z3, some (.int v4)], [], M1) o
    refine mm_Runs.seq (l := [(26, .iinc 4 (-1), 3), (29, .goto (-24), 3)]) (S2 := (5, [some (.ref 5), some (.long v1), z2, (mm_no2 z3), some (.int (v4 + (-1 : Int32)))], [], M1)) (by decide +kernel) (hO := mm_own_60) rfl ?_
    cases h
    exact (show mp_60_5 L xs (d + 1) v1 (v4 + (-1 : Int32)) M1 o from hA) z2 ((mm_no2 z3))
theorem ms_60_L5 {L : Nat} {xs : Nat → Int32} {d : Nat} (hd : 1 ≤ d) {v1 : Int64} {v4 : Int32} {β : Type} {K : β → mm_M → mm_E → Prop} {F : (Unit) → mm_M → mm_O β} {M : mm_M} {q : (β ⊕ Nat) × mm_M} {o : mm_E} (h : mm_B (mf_60_L5 v1 v4 M) F = some q) (hA : mm_A K q o) (hx : ∀ (r : (Unit)) (M2 : mm_M), F r M2 = some q → (fun r M o => mp_60_32 L xs (d) M o) r M2 o) : mp_60_5 L xs d v1 v4 M o := by
  unfold mf_60_L5 at h
  exact mm_R_loop (step := (fun s M => mf_60_b5 v1 s M)) (s := v4) (M := M) (P := (fun s M o => mp_60_5 L xs (d) v1 s M o)) (X := (fun r M o => mp_60_32 L xs (d) M o)) h hA (fun s M q hq hA => ms_60_b5 (v1 := v1) (v4 := s) (M := M) (q := q) hd hq hA) hx
set_option maxRecDepth 8000 in
set_option maxHeartbeats 4000000 in
theorem ms_60 {L : Nat} {xs : Nat → Int32} {d : Nat} (hd : 1 ≤ d) {v1 : Int64} {v3 : Int32} {M : mm_M} {q : (Unit ⊕ Nat) × mm_M} {o : mm_E} (h : mf_60 v1 v3 M = some q) (hA : mm_A (mm_Kr mm_wv) q o) : mm_Runs L xs d 60 (0, mm_ent (mm_ml 60) [.ref 5, .long v1, .int v3], [], M) o := by
  unfold mf_60 at h
  obtain ⟨d, rfl⟩ := mm_d1 (n := 0) hd
  show mm_Runs L xs (d + 1) 60 (0, [some (.ref 5), some (.long v1), none, some (.int v3), none], [], M) o
  refine mm_Runs.seq (l := [(0, .iload_n 3, 1), (1, .iconst 1, 1), (2, .isub, 1), (3, .istore 4, 2)]) (S2 := (5, [some (.ref 5), some (.long v1), none, some (.int v3), some (.int (v3 - (1 : Int32)))], [], M)) (by decide +kernel) (hO := mm_own_60) rfl ?_
  have hp : mp_60_5 L xs (d + 1) v1 (v3 - (1 : Int32)) M o := by
    refine ms_60_L5 hd h hA (fun r2 M1 h => ?_)
    intro y3 y4 y5 y6 y7
    show mm_Runs L xs (d + 1) 60 (32, [y3, y4, y5, y6, y7], [], M1) o
    cases h
    exact mm_R_retv rfl rfl hA
  exact hp none (some (.int v3))
-- 89: PlainPacks$Blocks.writeWrapped()V (depth 5)
theorem mm_own_89 : mm_own 89 = 6 := rfl
set_option maxRecDepth 8000 in
set_option maxHeartbeats 4000000 in
theorem ms_89 {L : Nat} {xs : Nat → Int32} {d : Nat} (hd : 5 ≤ d) {M : mm_M} {q : (Unit ⊕ Nat) × mm_M} {o : mm_E} (h : mf_89 M = some q) (hA : mm_A (mm_Kr mm_wv) q o) : mm_Runs L xs d 89 (0, mm_ent (mm_ml 89) [.ref 16], [], M) o := by
  unfold mf_89 at h
  obtain ⟨d, rfl⟩ := mm_d1 (n := 4) hd
  show mm_Runs L xs (d + 1) 89 (0, [some (.ref 16)], [], M) o
  refine mm_Runs.seq (l := [(0, .aload_n 0, 1), (1, .getfield 47, 3), (4, .bipush 120, 2)]) (S2 := (6, [some (.ref 16)], [.int (120 : Int32), .ref 5], M)) (by decide +kernel) (hO := mm_own_89) rfl ?_
  refine mm_R_call (v := mm_wv) h hA (k2 := 57) (as := [.ref 5, .int (120 : Int32)]) (r := []) rfl (fun _ => rfl) (fun q hq o ho => ms_57 (by omega) hq ho) (fun _ M1 h => ?_)
  show mm_Runs L xs (d + 1) 89 (9, [some (.ref 16)], [], M1) o
  refine mm_Runs.seq (l := [(9, .aload_n 0, 1), (10, .getfield 47, 3), (13, .iconst 1, 1)]) (S2 := (14, [some (.ref 16)], [.int (1 : Int32), .ref 5], M1)) (by decide +kernel) (hO := mm_own_89) rfl ?_
  refine mm_R_call (v := mm_wv) h hA (k2 := 57) (as := [.ref 5, .int (1 : Int32)]) (r := []) rfl (fun _ => rfl) (fun q hq o ho => ms_57 (by omega) hq ho) (fun _ M2 h => ?_)
  show mm_Runs L xs (d + 1) 89 (17, [some (.ref 16)], [], M2) o
  refine mm_Runs.seq (l := [(17, .aload_n 0, 1)]) (S2 := (18, [some (.ref 16)], [.ref 16], M2)) (by decide +kernel) (hO := mm_own_89) rfl ?_
  refine mm_R_call (v := mm_wv) h hA (k2 := 91) (as := [.ref 16]) (r := []) rfl (fun _ => rfl) (fun q hq o ho => ms_91 (by omega) hq ho) (fun _ M3 h => ?_)
  show mm_Runs L xs (d + 1) 89 (21, [some (.ref 16)], [], M3) o
  refine mm_Runs.seq (l := [(21, .aload_n 0, 1), (22, .getfield 47, 3), (25, .aload_n 0, 1), (26, .getfield 39, 3), (29, .getfield 94, 3), (32, .iconst 0, 1), (33, .aload_n 0, 1), (34, .getfield 39, 3), (37, .getfield 191, 3)]) (S2 := (40, [some (.ref 16)], [.int (M3.1 1 1), .int (0 : Int32), .ref 2, .ref 5], M3)) (by decide +kernel) (hO := mm_own_89) rfl ?_
  refine mm_R_call (v := mm_wi) h hA (k2 := 30) (as := [.ref 2, .int (0 : Int32), .int (M3.1 1 1)]) (r := [.ref 5]) rfl (fun _ => rfl) (fun q hq o ho => ms_30 rfl (by omega) hq ho) (fun r4 M5 h => ?_)
  show mm_Runs L xs (d + 1) 89 (43, [some (.ref 16)], [.int r4, .ref 5], M5) o
  refine mm_Runs.seq (l := [(43, .i2l, 1), (44, .iconst 4, 1)]) (S2 := (45, [some (.ref 16)], [.int (4 : Int32), .long r4.toInt64, .ref 5], M5)) (by decide +kernel) (hO := mm_own_89) rfl ?_
  refine mm_R_call (v := mm_wv) h hA (k2 := 60) (as := [.ref 5, .long r4.toInt64, .int (4 : Int32)]) (r := []) rfl (fun _ => rfl) (fun q hq o ho => ms_60 (by omega) hq ho) (fun _ M6 h => ?_)
  show mm_Runs L xs (d + 1) 89 (48, [some (.ref 16)], [], M6) o
  cases h
  exact mm_R_retv rfl rfl hA
-- 59: PlainPacks$Writer.low(JI)V (depth 1)
theorem mm_own_59 : mm_own 59 = 3 := rfl
def mp_59_3 (L : Nat) (xs : Nat → Int32) (d : Nat) (v1 : Int64) (v3 : Int32) (v4 : Int32) (M : mm_M) (o : mm_E) : Prop := ∀ z2 : Option Value, mm_Runs L xs d 59 (3, [some (.ref 5), some (.long v1), z2, some (.int v3), some (.int v4)], [], M) o
def mp_59_31 (L : Nat) (xs : Nat → Int32) (d : Nat) (M : mm_M) (o : mm_E) : Prop := ∀ z0 z1 z2 z3 z4 : Option Value, mm_Runs L xs d 59 (31, [z0, z1, z2, z3, z4], [], M) o
set_option maxRecDepth 8000 in
set_option maxHeartbeats 4000000 in
theorem ms_59_b3 {L : Nat} {xs : Nat → Int32} {d : Nat} (hd : 1 ≤ d) {v1 : Int64} {v3 : Int32} {v4 : Int32} {M : mm_M} {q : (((Int32) ⊕ (Unit)) ⊕ Nat) × mm_M} {o : mm_E} (h : mf_59_b3 v1 v3 v4 M = some q) (hA : mm_A (mm_K2 (fun s M o => mp_59_3 L xs (d) v1 v3 s M o) (fun r M o => mp_59_31 L xs (d) M o)) q o) : mp_59_3 L xs d v1 v3 v4 M o := by
  unfold mf_59_b3 at h
  obtain ⟨d, rfl⟩ := mm_d1 (n := 0) hd
  intro z2
  show mm_Runs L xs (d + 1) 59 (3, [some (.ref 5), some (.long v1), z2, some (.int v3), some (.int v4)], [], M) o
  refine mm_Runs.seq (l := [(3, .iload 4, 2), (5, .iload_n 3, 1)]) (S2 := (6, [some (.ref 5), some (.long v1), z2, some (.int v3), some (.int v4)], [.int v3, .int v4], M)) (by decide +kernel) (hO := mm_own_59) rfl ?_
  refine mm_R_ige (t := 31) rfl rfl rfl (fun hc => ?_) (fun hc => ?_)
  · replace h := mm_ip hc h
    refine mm_Runs.seq (l := [(9, .aload_n 0, 1), (10, .lload_n 1, 1), (11, .bipush 8, 2), (13, .iload 4, 2), (15, .imul, 1), (16, .lushr, 1), (17, .ldc2_w 39, 3), (20, .land, 1), (21, .l2i, 1)]) (S2 := (22, [some (.ref 5), some (.long v1), z2, some (.int v3), some (.int v4)], [.int ((mm_lush v1 ((8 : Int32) * v4)) &&& (255 : Int64)).toInt32, .ref 5], M)) (by decide +kernel) (hO := mm_own_59) rfl ?_
    refine mm_R_call (v := mm_wv) h hA (k2 := 57) (as := [.ref 5, .int ((mm_lush v1 ((8 : Int32) * v4)) &&& (255 : Int64)).toInt32]) (r := []) rfl (fun _ => rfl) (fun q hq o ho => ms_57 (by omega) hq ho) (fun _ M1 h => ?_)
    show mm_Runs L xs (d + 1) 59 (25, [some (.ref 5), some (.long v1), z2, some (.int v3), some (.int v4)], [], M1) o
    refine mm_Runs.seq (l := [(25, .iinc 4 1, 3), (28, .goto (-25), 3)]) (S2 := (3, [some (.ref 5), some (.long v1), z2, some (.int v3), some (.int (v4 + (1 : Int32)))], [], M1)) (by decide +kernel) (hO := mm_own_59) rfl ?_
    cases h
    exact (show mp_59_3 L xs (d + 1) v1 v3 (v4 + (1 : Int32)) M1 o from hA) z2
  · replace h := mm_iq hc h
    cases h
    exact (show mp_59_31 L xs (d + 1) M o from hA) (some (.ref 5)) (some (.long v1)) z2 (some (.int v3)) (some (.int v4))
theorem ms_59_L3 {L : Nat} {xs : Nat → Int32} {d : Nat} (hd : 1 ≤ d) {v1 : Int64} {v3 : Int32} {v4 : Int32} {β : Type} {K : β → mm_M → mm_E → Prop} {F : (Unit) → mm_M → mm_O β} {M : mm_M} {q : (β ⊕ Nat) × mm_M} {o : mm_E} (h : mm_B (mf_59_L3 v1 v3 v4 M) F = some q) (hA : mm_A K q o) (hx : ∀ (r : (Unit)) (M2 : mm_M), F r M2 = some q → (fun r M o => mp_59_31 L xs (d) M o) r M2 o) : mp_59_3 L xs d v1 v3 v4 M o := by
  unfold mf_59_L3 at h
  exact mm_R_loop (step := (fun s M => mf_59_b3 v1 v3 s M)) (s := v4) (M := M) (P := (fun s M o => mp_59_3 L xs (d) v1 v3 s M o)) (X := (fun r M o => mp_59_31 L xs (d) M o)) h hA (fun s M q hq hA => ms_59_b3 (v1 := v1) (v3 := v3) (v4 := s) (M := M) (q := q) hd hq hA) hx
set_option maxRecDepth 8000 in
set_option maxHeartbeats 4000000 in
theorem ms_59 {L : Nat} {xs : Nat → Int32} {d : Nat} (hd : 1 ≤ d) {v1 : Int64} {v3 : Int32} {M : mm_M} {q : (Unit ⊕ Nat) × mm_M} {o : mm_E} (h : mf_59 v1 v3 M = some q) (hA : mm_A (mm_Kr mm_wv) q o) : mm_Runs L xs d 59 (0, mm_ent (mm_ml 59) [.ref 5, .long v1, .int v3], [], M) o := by
  unfold mf_59 at h
  obtain ⟨d, rfl⟩ := mm_d1 (n := 0) hd
  show mm_Runs L xs (d + 1) 59 (0, [some (.ref 5), some (.long v1), none, some (.int v3), none], [], M) o
  refine mm_Runs.seq (l := [(0, .iconst 0, 1), (1, .istore 4, 2)]) (S2 := (3, [some (.ref 5), some (.long v1), none, some (.int v3), some (.int (0 : Int32))], [], M)) (by decide +kernel) (hO := mm_own_59) rfl ?_
  have hp : mp_59_3 L xs (d + 1) v1 v3 (0 : Int32) M o := by
    refine ms_59_L3 hd h hA (fun r2 M1 h => ?_)
    intro y3 y4 y5 y6 y7
    show mm_Runs L xs (d + 1) 59 (31, [y3, y4, y5, y6, y7], [], M1) o
    cases h
    exact mm_R_retv rfl rfl hA
  exact hp none
-- 90: PlainPacks$Blocks.writeFile()V (depth 5)
theorem mm_own_90 : mm_own 90 = 6 := rfl
set_option maxRecDepth 8000 in
set_option maxHeartbeats 4000000 in
theorem ms_90 {L : Nat} {xs : Nat → Int32} {d : Nat} (hd : 5 ≤ d) {M : mm_M} {q : (Unit ⊕ Nat) × mm_M} {o : mm_E} (h : mf_90 M = some q) (hA : mm_A (mm_Kr mm_wv) q o) : mm_Runs L xs d 90 (0, mm_ent (mm_ml 90) [.ref 16], [], M) o := by
  unfold mf_90 at h
  obtain ⟨d, rfl⟩ := mm_d1 (n := 4) hd
  show mm_Runs L xs (d + 1) 90 (0, [some (.ref 16)], [], M) o
  refine mm_Runs.seq (l := [(0, .aload_n 0, 1), (1, .getfield 47, 3), (4, .bipush 31, 2)]) (S2 := (6, [some (.ref 16)], [.int (31 : Int32), .ref 5], M)) (by decide +kernel) (hO := mm_own_90) rfl ?_
  refine mm_R_call (v := mm_wv) h hA (k2 := 57) (as := [.ref 5, .int (31 : Int32)]) (r := []) rfl (fun _ => rfl) (fun q hq o ho => ms_57 (by omega) hq ho) (fun _ M1 h => ?_)
  show mm_Runs L xs (d + 1) 90 (9, [some (.ref 16)], [], M1) o
  refine mm_Runs.seq (l := [(9, .aload_n 0, 1), (10, .getfield 47, 3), (13, .sipush 139, 3)]) (S2 := (16, [some (.ref 16)], [.int (139 : Int32), .ref 5], M1)) (by decide +kernel) (hO := mm_own_90) rfl ?_
  refine mm_R_call (v := mm_wv) h hA (k2 := 57) (as := [.ref 5, .int (139 : Int32)]) (r := []) rfl (fun _ => rfl) (fun q hq o ho => ms_57 (by omega) hq ho) (fun _ M2 h => ?_)
  show mm_Runs L xs (d + 1) 90 (19, [some (.ref 16)], [], M2) o
  refine mm_Runs.seq (l := [(19, .aload_n 0, 1), (20, .getfield 47, 3), (23, .bipush 8, 2)]) (S2 := (25, [some (.ref 16)], [.int (8 : Int32), .ref 5], M2)) (by decide +kernel) (hO := mm_own_90) rfl ?_
  refine mm_R_call (v := mm_wv) h hA (k2 := 57) (as := [.ref 5, .int (8 : Int32)]) (r := []) rfl (fun _ => rfl) (fun q hq o ho => ms_57 (by omega) hq ho) (fun _ M3 h => ?_)
  show mm_Runs L xs (d + 1) 90 (28, [some (.ref 16)], [], M3) o
  refine mm_Runs.seq (l := [(28, .aload_n 0, 1), (29, .getfield 47, 3), (32, .lconst 0, 1), (33, .bipush 6, 2)]) (S2 := (35, [some (.ref 16)], [.int (6 : Int32), .long (0 : Int64), .ref 5], M3)) (by decide +kernel) (hO := mm_own_90) rfl ?_
  refine mm_R_call (v := mm_wv) h hA (k2 := 59) (as := [.ref 5, .long (0 : Int64), .int (6 : Int32)]) (r := []) rfl (fun _ => rfl) (fun q hq o ho => ms_59 (by omega) hq ho) (fun _ M4 h => ?_)
  show mm_Runs L xs (d + 1) 90 (38, [some (.ref 16)], [], M4) o
  refine mm_Runs.seq (l := [(38, .aload_n 0, 1), (39, .getfield 47, 3), (42, .sipush 255, 3)]) (S2 := (45, [some (.ref 16)], [.int (255 : Int32), .ref 5], M4)) (by decide +kernel) (hO := mm_own_90) rfl ?_
  refine mm_R_call (v := mm_wv) h hA (k2 := 57) (as := [.ref 5, .int (255 : Int32)]) (r := []) rfl (fun _ => rfl) (fun q hq o ho => ms_57 (by omega) hq ho) (fun _ M5 h => ?_)
  show mm_Runs L xs (d + 1) 90 (48, [some (.ref 16)], [], M5) o
  refine mm_Runs.seq (l := [(48, .aload_n 0, 1)]) (S2 := (49, [some (.ref 16)], [.ref 16], M5)) (by decide +kernel) (hO := mm_own_90) rfl ?_
  refine mm_R_call (v := mm_wv) h hA (k2 := 91) (as := [.ref 16]) (r := []) rfl (fun _ => rfl) (fun q hq o ho => ms_91 (by omega) hq ho) (fun _ M6 h => ?_)
  show mm_Runs L xs (d + 1) 90 (52, [some (.ref 16)], [], M6) o
  refine mm_Runs.seq (l := [(52, .aload_n 0, 1), (53, .getfield 47, 3), (56, .aload_n 0, 1), (57, .getfield 39, 3), (60, .getfield 94, 3), (63, .iconst 0, 1), (64, .aload_n 0, 1), (65, .getfield 39, 3), (68, .getfield 191, 3)]) (S2 := (71, [some (.ref 16)], [.int (M6.1 1 1), .int (0 : Int32), .ref 2, .ref 5], M6)) (by decide +kernel) (hO := mm_own_90) rfl ?_
  refine mm_R_call (v := mm_wi) h hA (k2 := 28) (as := [.ref 2, .int (0 : Int32), .int (M6.1 1 1)]) (r := [.ref 5]) rfl (fun _ => rfl) (fun q hq o ho => ms_28 rfl (by omega) hq ho) (fun r7 M8 h => ?_)
  show mm_Runs L xs (d + 1) 90 (74, [some (.ref 16)], [.int r7, .ref 5], M8) o
  refine mm_Runs.seq (l := [(74, .i2l, 1), (75, .iconst 4, 1)]) (S2 := (76, [some (.ref 16)], [.int (4 : Int32), .long r7.toInt64, .ref 5], M8)) (by decide +kernel) (hO := mm_own_90) rfl ?_
  refine mm_R_call (v := mm_wv) h hA (k2 := 59) (as := [.ref 5, .long r7.toInt64, .int (4 : Int32)]) (r := []) rfl (fun _ => rfl) (fun q hq o ho => ms_59 (by omega) hq ho) (fun _ M9 h => ?_)
  show mm_Runs L xs (d + 1) 90 (79, [some (.ref 16)], [], M9) o
  refine mm_Runs.seq (l := [(79, .aload_n 0, 1), (80, .getfield 47, 3), (83, .aload_n 0, 1), (84, .getfield 39, 3), (87, .getfield 191, 3), (90, .i2l, 1), (91, .iconst 4, 1)]) (S2 := (92, [some (.ref 16)], [.int (4 : Int32), .long (M9.1 1 1).toInt64, .ref 5], M9)) (by decide +kernel) (hO := mm_own_90) rfl ?_
  refine mm_R_call (v := mm_wv) h hA (k2 := 59) (as := [.ref 5, .long (M9.1 1 1).toInt64, .int (4 : Int32)]) (r := []) rfl (fun _ => rfl) (fun q hq o ho => ms_59 (by omega) hq ho) (fun _ M10 h => ?_)
  show mm_Runs L xs (d + 1) 90 (95, [some (.ref 16)], [], M10) o
  cases h
  exact mm_R_retv rfl rfl hA
-- 115: PlainPacks$Words.longerWord(II)I (depth 0)
theorem mm_own_115 : mm_own 115 = 8 := rfl
def mp_115_10 (L : Nat) (xs : Nat → Int32) (d : Nat) (v2 : Int32) (v3 : Int32) (v4 : Int32) (M : mm_M) (o : mm_E) : Prop := ∀ z1 : Option Value, mm_Runs L xs d 115 (10, [some (.ref 35), z1, some (.int v2), some (.int v3), some (.int v4)], [], M) o
def mp_115_45 (L : Nat) (xs : Nat → Int32) (d : Nat) (v3 : Int32) (M : mm_M) (o : mm_E) : Prop := ∀ z0 z1 z2 z4 : Option Value, mm_Runs L xs d 115 (45, [z0, z1, z2, some (.int v3), z4], [], M) o
set_option maxRecDepth 8000 in
set_option maxHeartbeats 4000000 in
theorem ms_115_b10 {L : Nat} {xs : Nat → Int32} {d : Nat} (hd : 0 ≤ d) {v2 : Int32} {v3 : Int32} {v4 : Int32} {M : mm_M} {q : (((Int32 × Int32) ⊕ (Int32)) ⊕ Nat) × mm_M} {o : mm_E} (h : mf_115_b10 v2 v3 v4 M = some q) (hA : mm_A (mm_K2 (fun s M o => mp_115_10 L xs (d) v2 s.1 s.2 M o) (fun r M o => mp_115_45 L xs (d) r M o)) q o) : mp_115_10 L xs d v2 v3 v4 M o := by
  unfold mf_115_b10 at h
  intro z1
  show mm_Runs L xs (d) 115 (10, [some (.ref 35), z1, some (.int v2), some (.int v3), some (.int v4)], [], M) o
  refine mm_Runs.seq (l := [(10, .iload 4, 2), (12, .sipush 4096, 3)]) (S2 := (15, [some (.ref 35), z1, some (.int v2), some (.int v3), some (.int v4)], [.int (4096 : Int32), .int v4], M)) (by decide +kernel) (hO := mm_own_115) rfl ?_
  refine mm_R_ige (t := 45) rfl rfl rfl (fun hc => ?_) (fun hc => ?_)
  · replace h := mm_ip hc h
    refine mm_Runs.seq (l := [(18, .iload_n 3, 1)]) (S2 := (19, [some (.ref 35), z1, some (.int v2), some (.int v3), some (.int v4)], [.int v3], M)) (by decide +kernel) (hO := mm_own_115) rfl ?_
    refine mm_R_zle (t := 45) rfl rfl rfl (fun hc => ?_) (fun hc => ?_)
    · replace h := mm_ip hc h
      refine mm_Runs.seq (l := [(22, .aload_n 0, 1), (23, .getfield 24, 3), (26, .iload_n 3, 1)]) (S2 := (27, [some (.ref 35), z1, some (.int v2), some (.int v3), some (.int v4)], [.int v3, .ref 40], M)) (by decide +kernel) (hO := mm_own_115) rfl ?_
      obtain ⟨hb, h⟩ := mm_gd h
      refine mm_R_iald rfl rfl hb ?_
      refine mm_Runs.seq (l := [(28, .iload_n 2, 1)]) (S2 := (29, [some (.ref 35), z1, some (.int v2), some (.int v3), some (.int v4)], [.int v2, .int (M.1 40 v3.toNatClampNeg)], M)) (by decide +kernel) (hO := mm_own_115) rfl ?_
      refine mm_R_ieq (t := 45) rfl rfl rfl (fun hc => ?_) (fun hc => ?_)
      · replace h := mm_ip hc h
        cases h
        exact (show mp_115_45 L xs (d) v3 M o from hA) (some (.ref 35)) z1 (some (.int v2)) (some (.int v4))
      · replace h := mm_iq hc h
        refine mm_Runs.seq (l := [(32, .aload_n 0, 1), (33, .getfield 21, 3), (36, .iload_n 3, 1)]) (S2 := (37, [some (.ref 35), z1, some (.int v2), some (.int v3), some (.int v4)], [.int v3, .ref 39], M)) (by decide +kernel) (hO := mm_own_115) rfl ?_
        obtain ⟨hb, h⟩ := mm_gd h
        refine mm_R_iald rfl rfl hb ?_
        refine mm_Runs.seq (l := [(38, .istore_n 3, 1), (39, .iinc 4 1, 3), (42, .goto (-32), 3)]) (S2 := (10, [some (.ref 35), z1, some (.int v2), some (.int (M.1 39 v3.toNatClampNeg)), some (.int (v4 + (1 : Int32)))], [], M)) (by decide +kernel) (hO := mm_own_115) rfl ?_
        cases h
        exact (show mp_115_10 L xs (d) v2 (M.1 39 v3.toNatClampNeg) (v4 + (1 : Int32)) M o from hA) z1
    · replace h := mm_iq hc h
      cases h
      exact (show mp_115_45 L xs (d) v3 M o from hA) (some (.ref 35)) z1 (some (.int v2)) (some (.int v4))
  · replace h := mm_iq hc h
    cases h
    exact (show mp_115_45 L xs (d) v3 M o from hA) (some (.ref 35)) z1 (some (.int v2)) (some (.int v4))
theorem ms_115_L10 {L : Nat} {xs : Nat → Int32} {d : Nat} (hd : 0 ≤ d) {v2 : Int32} {v3 : Int32} {v4 : Int32} {β : Type} {K : β → mm_M → mm_E → Prop} {F : (Int32) → mm_M → mm_O β} {M : mm_M} {q : (β ⊕ Nat) × mm_M} {o : mm_E} (h : mm_B (mf_115_L10 v2 (v3, v4) M) F = some q) (hA : mm_A K q o) (hx : ∀ (r : (Int32)) (M2 : mm_M), F r M2 = some q → (fun r M o => mp_115_45 L xs (d) r M o) r M2 o) : mp_115_10 L xs d v2 v3 v4 M o := by
  unfold mf_115_L10 at h
  exact mm_R_loop (step := (fun s M => mf_115_b10 v2 s.1 s.2 M)) (s := (v3, v4)) (M := M) (P := (fun s M o => mp_115_10 L xs (d) v2 s.1 s.2 M o)) (X := (fun r M o => mp_115_45 L xs (d) r M o)) h hA (fun s M q hq hA => ms_115_b10 (v2 := v2) (v3 := s.1) (v4 := s.2) (M := M) (q := q) hd hq hA) hx
set_option maxRecDepth 8000 in
set_option maxHeartbeats 4000000 in
theorem ms_115 {L : Nat} {xs : Nat → Int32} {d : Nat} (hd : 0 ≤ d) {v1 : Int32} {v2 : Int32} {M : mm_M} {q : (Int32 ⊕ Nat) × mm_M} {o : mm_E} (h : mf_115 v1 v2 M = some q) (hA : mm_A (mm_Kr mm_wi) q o) : mm_Runs L xs d 115 (0, mm_ent (mm_ml 115) [.ref 35, .int v1, .int v2], [], M) o := by
  unfold mf_115 at h
  show mm_Runs L xs (d) 115 (0, [some (.ref 35), some (.int v1), some (.int v2), none, none], [], M) o
  refine mm_Runs.seq (l := [(0, .aload_n 0, 1), (1, .getfield 18, 3), (4, .iload_n 1, 1)]) (S2 := (5, [some (.ref 35), some (.int v1), some (.int v2), none, none], [.int v1, .ref 38], M)) (by decide +kernel) (hO := mm_own_115) rfl ?_
  obtain ⟨hb, h⟩ := mm_gd h
  refine mm_R_iald rfl rfl hb ?_
  refine mm_Runs.seq (l := [(6, .istore_n 3, 1), (7, .iconst 0, 1), (8, .istore 4, 2)]) (S2 := (10, [some (.ref 35), some (.int v1), some (.int v2), some (.int (M.1 38 v1.toNatClampNeg)), some (.int (0 : Int32))], [], M)) (by decide +kernel) (hO := mm_own_115) rfl ?_
  have hp : mp_115_10 L xs (d) v2 (M.1 38 v1.toNatClampNeg) (0 : Int32) M o := by
    refine ms_115_L10 hd h hA (fun r2 M1 h => ?_)
    intro y3 y4 y5 y6
    show mm_Runs L xs (d) 115 (45, [y3, y4, y5, some (.int r2), y6], [], M1) o
    refine mm_Runs.seq (l := [(45, .iload_n 3, 1)]) (S2 := (46, [y3, y4, y5, some (.int r2), y6], [.int r2], M1)) (by decide +kernel) (hO := mm_own_115) rfl ?_
    cases h
    exact mm_R_reti rfl rfl hA
  exact hp (some (.int v1))
-- 116: PlainPacks$Words.addWord(II)V (depth 0)
theorem mm_own_116 : mm_own 116 = 8 := rfl
set_option maxRecDepth 8000 in
set_option maxHeartbeats 4000000 in
theorem ms_116 {L : Nat} {xs : Nat → Int32} {d : Nat} (hd : 0 ≤ d) {v1 : Int32} {v2 : Int32} {M : mm_M} {q : (Unit ⊕ Nat) × mm_M} {o : mm_E} (h : mf_116 v1 v2 M = some q) (hA : mm_A (mm_Kr mm_wv) q o) : mm_Runs L xs d 116 (0, mm_ent (mm_ml 116) [.ref 35, .int v1, .int v2], [], M) o := by
  unfold mf_116 at h
  show mm_Runs L xs (d) 116 (0, [some (.ref 35), some (.int v1), some (.int v2)], [], M) o
  refine mm_Runs.seq (l := [(0, .aload_n 0, 1), (1, .getfield 24, 3), (4, .aload_n 0, 1), (5, .getfield 56, 3), (8, .iload_n 2, 1)]) (S2 := (9, [some (.ref 35), some (.int v1), some (.int v2)], [.int v2, .int (M.1 35 10), .ref 40], M)) (by decide +kernel) (hO := mm_own_116) rfl ?_
  obtain ⟨hb, h⟩ := mm_gd h
  refine mm_R_iast rfl rfl hb ?_
  refine mm_Runs.seq (l := [(10, .aload_n 0, 1), (11, .getfield 21, 3), (14, .aload_n 0, 1), (15, .getfield 56, 3), (18, .aload_n 0, 1), (19, .getfield 18, 3), (22, .iload_n 1, 1)]) (S2 := (23, [some (.ref 35), some (.int v1), some (.int v2)], [.int v1, .ref 38, .int (M.1 35 10), .ref 39], (mm_pi M 40 (M.1 35 10).toNatClampNeg v2))) (by decide +kernel) (hO := mm_own_116) rfl ?_
  obtain ⟨hb, h⟩ := mm_gd h
  refine mm_R_iald rfl rfl hb ?_
  obtain ⟨hb, h⟩ := mm_gd h
  refine mm_R_iast rfl rfl hb ?_
  refine mm_Runs.seq (l := [(25, .aload_n 0, 1), (26, .getfield 18, 3), (29, .iload_n 1, 1), (30, .aload_n 0, 1), (31, .getfield 56, 3)]) (S2 := (34, [some (.ref 35), some (.int v1), some (.int v2)], [.int (M.1 35 10), .int v1, .ref 38], (mm_pi (mm_pi M 40 (M.1 35 10).toNatClampNeg v2) 39 (M.1 35 10).toNatClampNeg (M.1 38 v1.toNatClampNeg)))) (by decide +kernel) (hO := mm_own_116) rfl ?_
  obtain ⟨hb, h⟩ := mm_gd h
  refine mm_R_iast rfl rfl hb ?_
  cases h
  exact mm_R_retv rfl rfl hA
-- 114: PlainPacks$Words.writeCodes()V (depth 3)
theorem mm_own_114 : mm_own 114 = 8 := rfl
def mp_114_26 (L : Nat) (xs : Nat → Int32) (d : Nat) (v1 : Int32) (M : mm_M) (o : mm_E) : Prop := ∀ z2 z3 : Option Value, mm_Runs L xs d 114 (26, [some (.ref 35), some (.int v1), z2, z3], [], M) o
def mp_114_220 (L : Nat) (xs : Nat → Int32) (d : Nat) (M : mm_M) (o : mm_E) : Prop := ∀ z1 z2 z3 : Option Value, mm_Runs L xs d 114 (220, [some (.ref 35), z1, z2, z3], [], M) o
def mp_114_80 (L : Nat) (xs : Nat → Int32) (d : Nat) (v1 : Int32) (v2 : Int32) (v3 : Int32) (M : mm_M) (o : mm_E) : Prop := mm_Runs L xs d 114 (80, [some (.ref 35), some (.int v1), some (.int v2), some (.int v3)], [], M) o
def mp_114_133 (L : Nat) (xs : Nat → Int32) (d : Nat) (v1 : Int32) (v2 : Int32) (M : mm_M) (o : mm_E) : Prop := ∀ z3 : Option Value, mm_Runs L xs d 114 (133, [some (.ref 35), some (.int v1), some (.int v2), z3], [], M) o
set_option maxRecDepth 8000 in
set_option maxHeartbeats 4000000 in
theorem ms_114_b80 {L : Nat} {xs : Nat → Int32} {d : Nat} (hd : 3 ≤ d) {v1 : Int32} {v2 : Int32} {v3 : Int32} {M : mm_M} {q : (((Int32 × Int32 × Int32) ⊕ (Int32 × Int32)) ⊕ Nat) × mm_M} {o : mm_E} (h : mf_114_b80 v1 v2 v3 M = some q) (hA : mm_A (mm_K2 (fun s M o => mp_114_80 L xs (d) s.1 s.2.1 s.2.2 M o) (fun r M o => mp_114_133 L xs (d) r.1 r.2 M o)) q o) : mp_114_80 L xs d v1 v2 v3 M o := by
  unfold mf_114_b80 at h
  obtain ⟨d, rfl⟩ := mm_d1 (n := 2) hd
  show mm_Runs L xs (d + 1) 114 (80, [some (.ref 35), some (.int v1), some (.int v2), some (.int v3)], [], M) o
  refine mm_Runs.seq (l := [(80, .iload_n 1, 1), (81, .aload_n 0, 1), (82, .getfield 27, 3), (85, .getfield 131, 3)]) (S2 := (88, [some (.ref 35), some (.int v1), some (.int v2), some (.int v3)], [.int (M.1 1 1), .int v1], M)) (by decide +kernel) (hO := mm_own_114) rfl ?_
  refine mm_R_ige (t := 133) rfl rfl rfl (fun hc => ?_) (fun hc => ?_)
  · replace h := mm_ip hc h
    refine mm_Runs.seq (l := [(91, .iload_n 3, 1)]) (S2 := (92, [some (.ref 35), some (.int v1), some (.int v2), some (.int v3)], [.int v3], M)) (by decide +kernel) (hO := mm_own_114) rfl ?_
    refine mm_R_zle (t := 133) rfl rfl rfl (fun hc => ?_) (fun hc => ?_)
    · replace h := mm_ip hc h
      refine mm_Runs.seq (l := [(95, .iload_n 3, 1), (96, .istore_n 2, 1), (97, .iinc 1 1, 3), (100, .iload_n 1, 1), (101, .aload_n 0, 1), (102, .getfield 27, 3), (105, .getfield 131, 3)]) (S2 := (108, [some (.ref 35), some (.int (v1 + (1 : Int32))), some (.int v3), some (.int v3)], [.int (M.1 1 1), .int (v1 + (1 : Int32))], M)) (by decide +kernel) (hO := mm_own_114) rfl ?_
      refine mm_R_ige (t := 128) rfl rfl rfl (fun hc => ?_) (fun hc => ?_)
      · replace h := mm_ip hc h
        refine mm_Runs.seq (l := [(111, .aload_n 0, 1), (112, .iload_n 2, 1), (113, .aload_n 0, 1), (114, .getfield 27, 3), (117, .getfield 132, 3), (120, .iload_n 1, 1)]) (S2 := (121, [some (.ref 35), some (.int (v1 + (1 : Int32))), some (.int v3), some (.int v3)], [.int (v1 + (1 : Int32)), .ref 2, .int v3, .ref 35], M)) (by decide +kernel) (hO := mm_own_114) rfl ?_
        obtain ⟨hb, h⟩ := mm_gd h
        refine mm_R_iald rfl rfl hb ?_
        refine mm_R_call (v := mm_wi) h hA (k2 := 115) (as := [.ref 35, .int v3, .int (M.1 2 (v1 + (1 : Int32)).toNatClampNeg)]) (r := []) rfl (fun _ => rfl) (fun q hq o ho => ms_115 (by omega) hq ho) (fun r1 M2 h => ?_)
        show mm_Runs L xs (d + 1) 114 (125, [some (.ref 35), some (.int (v1 + (1 : Int32))), some (.int v3), some (.int v3)], [.int r1], M2) o
        refine mm_Runs.seq (l := [(125, .goto 4, 3), (129, .istore_n 3, 1), (130, .goto (-50), 3)]) (S2 := (80, [some (.ref 35), some (.int (v1 + (1 : Int32))), some (.int v3), some (.int r1)], [], M2)) (by decide +kernel) (hO := mm_own_114) rfl ?_
        cases h
        exact (show mp_114_80 L xs (d + 1) (v1 + (1 : Int32)) v3 r1 M2 o from hA)
      · replace h := mm_iq hc h
        refine mm_Runs.seq (l := [(128, .iconst 0, 1), (129, .istore_n 3, 1), (130, .goto (-50), 3)]) (S2 := (80, [some (.ref 35), some (.int (v1 + (1 : Int32))), some (.int v3), some (.int (0 : Int32))], [], M)) (by decide +kernel) (hO := mm_own_114) rfl ?_
        cases h
        exact (show mp_114_80 L xs (d + 1) (v1 + (1 : Int32)) v3 (0 : Int32) M o from hA)
    · replace h := mm_iq hc h
      cases h
      exact (show mp_114_133 L xs (d + 1) v1 v2 M o from hA) (some (.int v3))
  · replace h := mm_iq hc h
    cases h
    exact (show mp_114_133 L xs (d + 1) v1 v2 M o from hA) (some (.int v3))
theorem ms_114_L80 {L : Nat} {xs : Nat → Int32} {d : Nat} (hd : 3 ≤ d) {v1 : Int32} {v2 : Int32} {v3 : Int32} {β : Type} {K : β → mm_M → mm_E → Prop} {F : (Int32 × Int32) → mm_M → mm_O β} {M : mm_M} {q : (β ⊕ Nat) × mm_M} {o : mm_E} (h : mm_B (mf_114_L80 (v1, v2, v3) M) F = some q) (hA : mm_A K q o) (hx : ∀ (r : (Int32 × Int32)) (M2 : mm_M), F r M2 = some q → (fun r M o => mp_114_133 L xs (d) r.1 r.2 M o) r M2 o) : mp_114_80 L xs d v1 v2 v3 M o := by
  unfold mf_114_L80 at h
  exact mm_R_loop (step := (fun s M => mf_114_b80 s.1 s.2.1 s.2.2 M)) (s := (v1, v2, v3)) (M := M) (P := (fun s M o => mp_114_80 L xs (d) s.1 s.2.1 s.2.2 M o)) (X := (fun r M o => mp_114_133 L xs (d) r.1 r.2 M o)) h hA (fun s M q hq hA => ms_114_b80 (v1 := s.1) (v2 := s.2.1) (v3 := s.2.2) (M := M) (q := q) hd hq hA) hx
def mp_114_173 (L : Nat) (xs : Nat → Int32) (d : Nat) (v1 : Int32) (v2 : Int32) (M : mm_M) (o : mm_E) : Prop := ∀ z3 : Option Value, mm_Runs L xs d 114 (173, [some (.ref 35), some (.int v1), some (.int v2), z3], [], M) o
set_option maxRecDepth 8000 in
set_option maxHeartbeats 4000000 in
theorem ms_114_j173 {L : Nat} {xs : Nat → Int32} {d : Nat} (hd : 3 ≤ d) {v1 : Int32} {v2 : Int32} {M : mm_M} {q : (((Int32) ⊕ (Unit)) ⊕ Nat) × mm_M} {o : mm_E} (h : mf_114_j173 v1 v2 M = some q) (hA : mm_A (mm_K2 (fun s M o => mp_114_26 L xs (d) s M o) (fun r M o => mp_114_220 L xs (d) M o)) q o) : mp_114_173 L xs d v1 v2 M o := by
  unfold mf_114_j173 at h
  obtain ⟨d, rfl⟩ := mm_d1 (n := 2) hd
  intro z3
  show mm_Runs L xs (d + 1) 114 (173, [some (.ref 35), some (.int v1), some (.int v2), z3], [], M) o
  refine mm_Runs.seq (l := [(173, .aload_n 0, 1), (174, .iconst 0, 1), (175, .putfield 59, 3), (178, .aload_n 0, 1)]) (S2 := (179, [some (.ref 35), some (.int v1), some (.int v2), z3], [.ref 35], (mm_pi M 35 12 (0 : Int32)))) (by decide +kernel) (hO := mm_own_114) rfl ?_
  refine mm_R_call (v := mm_wv) h hA (k2 := 106) (as := [.ref 35]) (r := []) rfl (fun _ => rfl) (fun q hq o ho => ms_106 (by omega) hq ho) (fun _ M1 h => ?_)
  show mm_Runs L xs (d + 1) 114 (182, [some (.ref 35), some (.int v1), some (.int v2), z3], [], M1) o
  refine mm_Runs.seq (l := [(182, .iload_n 1, 1), (183, .aload_n 0, 1), (184, .getfield 27, 3), (187, .getfield 131, 3)]) (S2 := (190, [some (.ref 35), some (.int v1), some (.int v2), z3], [.int (M1.1 1 1), .int v1], M1)) (by decide +kernel) (hO := mm_own_114) rfl ?_
  refine mm_R_ige (t := 217) rfl rfl rfl (fun hc => ?_) (fun hc => ?_)
  · replace h := mm_ip hc h
    refine mm_Runs.seq (l := [(193, .aload_n 0, 1), (194, .getfield 56, 3), (197, .sipush 4096, 3)]) (S2 := (200, [some (.ref 35), some (.int v1), some (.int v2), z3], [.int (4096 : Int32), .int (M1.1 35 10)], M1)) (by decide +kernel) (hO := mm_own_114) rfl ?_
    refine mm_R_ige (t := 217) rfl rfl rfl (fun hc => ?_) (fun hc => ?_)
    · replace h := mm_ip hc h
      refine mm_Runs.seq (l := [(203, .aload_n 0, 1), (204, .iload_n 2, 1), (205, .aload_n 0, 1), (206, .getfield 27, 3), (209, .getfield 132, 3), (212, .iload_n 1, 1)]) (S2 := (213, [some (.ref 35), some (.int v1), some (.int v2), z3], [.int v1, .ref 2, .int v2, .ref 35], M1)) (by decide +kernel) (hO := mm_own_114) rfl ?_
      obtain ⟨hb, h⟩ := mm_gd h
      refine mm_R_iald rfl rfl hb ?_
      refine mm_R_call (v := mm_wv) h hA (k2 := 116) (as := [.ref 35, .int v2, .int (M1.1 2 v1.toNatClampNeg)]) (r := []) rfl (fun _ => rfl) (fun q hq o ho => ms_116 (by omega) hq ho) (fun _ M2 h => ?_)
      show mm_Runs L xs (d + 1) 114 (217, [some (.ref 35), some (.int v1), some (.int v2), z3], [], M2) o
      refine mm_Runs.seq (l := [(217, .goto (-191), 3)]) (S2 := (26, [some (.ref 35), some (.int v1), some (.int v2), z3], [], M2)) (by decide +kernel) (hO := mm_own_114) rfl ?_
      cases h
      exact (show mp_114_26 L xs (d + 1) v1 M2 o from hA) (some (.int v2)) z3
    · replace h := mm_iq hc h
      refine mm_Runs.seq (l := [(217, .goto (-191), 3)]) (S2 := (26, [some (.ref 35), some (.int v1), some (.int v2), z3], [], M1)) (by decide +kernel) (hO := mm_own_114) rfl ?_
      cases h
      exact (show mp_114_26 L xs (d + 1) v1 M1 o from hA) (some (.int v2)) z3
  · replace h := mm_iq hc h
    refine mm_Runs.seq (l := [(217, .goto (-191), 3)]) (S2 := (26, [some (.ref 35), some (.int v1), some (.int v2), z3], [], M1)) (by decide +kernel) (hO := mm_own_114) rfl ?_
    cases h
    exact (show mp_114_26 L xs (d + 1) v1 M1 o from hA) (some (.int v2)) z3
set_option maxRecDepth 8000 in
set_option maxHeartbeats 4000000 in
theorem ms_114_j133 {L : Nat} {xs : Nat → Int32} {d : Nat} (hd : 3 ≤ d) {v1 : Int32} {v2 : Int32} {M : mm_M} {q : (((Int32) ⊕ (Unit)) ⊕ Nat) × mm_M} {o : mm_E} (h : mf_114_j133 v1 v2 M = some q) (hA : mm_A (mm_K2 (fun s M o => mp_114_26 L xs (d) s M o) (fun r M o => mp_114_220 L xs (d) M o)) q o) : mp_114_133 L xs d v1 v2 M o := by
  unfold mf_114_j133 at h
  obtain ⟨d, rfl⟩ := mm_d1 (n := 2) hd
  intro z3
  show mm_Runs L xs (d + 1) 114 (133, [some (.ref 35), some (.int v1), some (.int v2), z3], [], M) o
  refine mm_Runs.seq (l := [(133, .aload_n 0, 1), (134, .getfield 35, 3), (137, .iload_n 2, 1), (138, .i2l, 1), (139, .aload_n 0, 1), (140, .getfield 53, 3)]) (S2 := (143, [some (.ref 35), some (.int v1), some (.int v2), z3], [.int (M.1 35 9), .long v2.toInt64, .ref 5], M)) (by decide +kernel) (hO := mm_own_114) rfl ?_
  refine mm_R_call (v := mm_wv) h hA (k2 := 62) (as := [.ref 5, .long v2.toInt64, .int (M.1 35 9)]) (r := []) rfl (fun _ => rfl) (fun q hq o ho => ms_62 (by omega) hq ho) (fun _ M1 h => ?_)
  show mm_Runs L xs (d + 1) 114 (146, [some (.ref 35), some (.int v1), some (.int v2), z3], [], M1) o
  refine mm_Runs.seq (l := [(146, .aload_n 0, 1), (147, .getfield 59, 3)]) (S2 := (150, [some (.ref 35), some (.int v1), some (.int v2), z3], [.int (M1.1 35 12)], M1)) (by decide +kernel) (hO := mm_own_114) rfl ?_
  refine mm_R_zne (t := 173) rfl rfl rfl (fun hc => ?_) (fun hc => ?_)
  · replace h := mm_ip hc h
    refine mm_Runs.seq (l := [(153, .aload_n 0, 1), (154, .getfield 56, 3), (157, .sipush 4096, 3)]) (S2 := (160, [some (.ref 35), some (.int v1), some (.int v2), z3], [.int (4096 : Int32), .int (M1.1 35 10)], M1)) (by decide +kernel) (hO := mm_own_114) rfl ?_
    refine mm_R_ige (t := 173) rfl rfl rfl (fun hc => ?_) (fun hc => ?_)
    · replace h := mm_ip hc h
      refine mm_Runs.seq (l := [(163, .aload_n 0, 1), (164, .dup, 1), (165, .getfield 56, 3), (168, .iconst 1, 1), (169, .iadd, 1), (170, .putfield 56, 3)]) (S2 := (173, [some (.ref 35), some (.int v1), some (.int v2), z3], [], (mm_pi M1 35 10 ((M1.1 35 10) + (1 : Int32))))) (by decide +kernel) (hO := mm_own_114) rfl ?_
      exact (ms_114_j173 hd h hA : mp_114_173 L xs (d + 1) v1 v2 (mm_pi M1 35 10 ((M1.1 35 10) + (1 : Int32))) o) z3
    · replace h := mm_iq hc h
      exact (ms_114_j173 hd h hA : mp_114_173 L xs (d + 1) v1 v2 M1 o) z3
  · replace h := mm_iq hc h
    exact (ms_114_j173 hd h hA : mp_114_173 L xs (d + 1) v1 v2 M1 o) z3
set_option maxRecDepth 8000 in
set_option maxHeartbeats 4000000 in
theorem ms_114_b26 {L : Nat} {xs : Nat → Int32} {d : Nat} (hd : 3 ≤ d) {v1 : Int32} {M : mm_M} {q : (((Int32) ⊕ (Unit)) ⊕ Nat) × mm_M} {o : mm_E} (h : mf_114_b26 v1 M = some q) (hA : mm_A (mm_K2 (fun s M o => mp_114_26 L xs (d) s M o) (fun r M o => mp_114_220 L xs (d) M o)) q o) : mp_114_26 L xs d v1 M o := by
  unfold mf_114_b26 at h
  obtain ⟨d, rfl⟩ := mm_d1 (n := 2) hd
  intro z2 z3
  show mm_Runs L xs (d + 1) 114 (26, [some (.ref 35), some (.int v1), z2, z3], [], M) o
  refine mm_Runs.seq (l := [(26, .iload_n 1, 1), (27, .aload_n 0, 1), (28, .getfield 27, 3), (31, .getfield 131, 3)]) (S2 := (34, [some (.ref 35), some (.int v1), z2, z3], [.int (M.1 1 1), .int v1], M)) (by decide +kernel) (hO := mm_own_114) rfl ?_
  refine mm_R_ige (t := 220) rfl rfl rfl (fun hc => ?_) (fun hc => ?_)
  · replace h := mm_ip hc h
    refine mm_Runs.seq (l := [(37, .aload_n 0, 1), (38, .getfield 27, 3), (41, .getfield 132, 3), (44, .iload_n 1, 1)]) (S2 := (45, [some (.ref 35), some (.int v1), z2, z3], [.int v1, .ref 2], M)) (by decide +kernel) (hO := mm_own_114) rfl ?_
    obtain ⟨hb, h⟩ := mm_gd h
    refine mm_R_iald rfl rfl hb ?_
    refine mm_Runs.seq (l := [(46, .istore_n 2, 1), (47, .iinc 1 1, 3), (50, .iload_n 1, 1), (51, .aload_n 0, 1), (52, .getfield 27, 3), (55, .getfield 131, 3)]) (S2 := (58, [some (.ref 35), some (.int (v1 + (1 : Int32))), some (.int (M.1 2 v1.toNatClampNeg)), z3], [.int (M.1 1 1), .int (v1 + (1 : Int32))], M)) (by decide +kernel) (hO := mm_own_114) rfl ?_
    refine mm_R_ige (t := 78) rfl rfl rfl (fun hc => ?_) (fun hc => ?_)
    · replace h := mm_ip hc h
      refine mm_Runs.seq (l := [(61, .aload_n 0, 1), (62, .iload_n 2, 1), (63, .aload_n 0, 1), (64, .getfield 27, 3), (67, .getfield 132, 3), (70, .iload_n 1, 1)]) (S2 := (71, [some (.ref 35), some (.int (v1 + (1 : Int32))), some (.int (M.1 2 v1.toNatClampNeg)), z3], [.int (v1 + (1 : Int32)), .ref 2, .int (M.1 2 v1.toNatClampNeg), .ref 35], M)) (by decide +kernel) (hO := mm_own_114) rfl ?_
      obtain ⟨hb, h⟩ := mm_gd h
      refine mm_R_iald rfl rfl hb ?_
      refine mm_R_call (v := mm_wi) h hA (k2 := 115) (as := [.ref 35, .int (M.1 2 v1.toNatClampNeg), .int (M.1 2 (v1 + (1 : Int32)).toNatClampNeg)]) (r := []) rfl (fun _ => rfl) (fun q hq o ho => ms_115 (by omega) hq ho) (fun r1 M2 h => ?_)
      show mm_Runs L xs (d + 1) 114 (75, [some (.ref 35), some (.int (v1 + (1 : Int32))), some (.int (M.1 2 v1.toNatClampNeg)), z3], [.int r1], M2) o
      refine mm_Runs.seq (l := [(75, .goto 4, 3), (79, .istore_n 3, 1)]) (S2 := (80, [some (.ref 35), some (.int (v1 + (1 : Int32))), some (.int (M.1 2 v1.toNatClampNeg)), some (.int r1)], [], M2)) (by decide +kernel) (hO := mm_own_114) rfl ?_
      have hp : mp_114_80 L xs (d + 1) (v1 + (1 : Int32)) (M.1 2 v1.toNatClampNeg) r1 M2 o := by
        refine ms_114_L80 hd h hA (fun r4 M3 h => ?_)
        intro y5
        show mm_Runs L xs (d + 1) 114 (133, [some (.ref 35), some (.int r4.1), some (.int r4.2), y5], [], M3) o
        exact (ms_114_j133 hd h hA : mp_114_133 L xs (d + 1) r4.1 r4.2 M3 o) y5
      exact hp
    · replace h := mm_iq hc h
      refine mm_Runs.seq (l := [(78, .iconst 0, 1), (79, .istore_n 3, 1)]) (S2 := (80, [some (.ref 35), some (.int (v1 + (1 : Int32))), some (.int (M.1 2 v1.toNatClampNeg)), some (.int (0 : Int32))], [], M)) (by decide +kernel) (hO := mm_own_114) rfl ?_
      have hp : mp_114_80 L xs (d + 1) (v1 + (1 : Int32)) (M.1 2 v1.toNatClampNeg) (0 : Int32) M o := by
        refine ms_114_L80 hd h hA (fun r7 M6 h => ?_)
        intro y8
        show mm_Runs L xs (d + 1) 114 (133, [some (.ref 35), some (.int r7.1), some (.int r7.2), y8], [], M6) o
        exact (ms_114_j133 hd h hA : mp_114_133 L xs (d + 1) r7.1 r7.2 M6 o) y8
      exact hp
  · replace h := mm_iq hc h
    cases h
    exact (show mp_114_220 L xs (d + 1) M o from hA) (some (.int v1)) z2 z3
theorem ms_114_L26 {L : Nat} {xs : Nat → Int32} {d : Nat} (hd : 3 ≤ d) {v1 : Int32} {β : Type} {K : β → mm_M → mm_E → Prop} {F : (Unit) → mm_M → mm_O β} {M : mm_M} {q : (β ⊕ Nat) × mm_M} {o : mm_E} (h : mm_B (mf_114_L26 v1 M) F = some q) (hA : mm_A K q o) (hx : ∀ (r : (Unit)) (M2 : mm_M), F r M2 = some q → (fun r M o => mp_114_220 L xs (d) M o) r M2 o) : mp_114_26 L xs d v1 M o := by
  unfold mf_114_L26 at h
  exact mm_R_loop (step := (fun s M => mf_114_b26 s M)) (s := v1) (M := M) (P := (fun s M o => mp_114_26 L xs (d) s M o)) (X := (fun r M o => mp_114_220 L xs (d) M o)) h hA (fun s M q hq hA => ms_114_b26 (v1 := s) (M := M) (q := q) hd hq hA) hx
set_option maxRecDepth 8000 in
set_option maxHeartbeats 4000000 in
theorem ms_114_j220 {L : Nat} {xs : Nat → Int32} {d : Nat} (hd : 3 ≤ d) {M : mm_M} {q : (Unit ⊕ Nat) × mm_M} {o : mm_E} (h : mf_114_j220 M = some q) (hA : mm_A (mm_Kr mm_wv) q o) : mp_114_220 L xs d M o := by
  unfold mf_114_j220 at h
  obtain ⟨d, rfl⟩ := mm_d1 (n := 2) hd
  intro z1 z2 z3
  show mm_Runs L xs (d + 1) 114 (220, [some (.ref 35), z1, z2, z3], [], M) o
  refine mm_Runs.seq (l := [(220, .aload_n 0, 1), (221, .getfield 35, 3), (224, .aload_n 0, 1), (225, .getfield 39, 3), (228, .iconst 1, 1), (229, .iadd, 1), (230, .i2l, 1), (231, .aload_n 0, 1), (232, .getfield 53, 3)]) (S2 := (235, [some (.ref 35), z1, z2, z3], [.int (M.1 35 9), .long ((M.1 35 8) + (1 : Int32)).toInt64, .ref 5], M)) (by decide +kernel) (hO := mm_own_114) rfl ?_
  refine mm_R_call (v := mm_wv) h hA (k2 := 62) (as := [.ref 5, .long ((M.1 35 8) + (1 : Int32)).toInt64, .int (M.1 35 9)]) (r := []) rfl (fun _ => rfl) (fun q hq o ho => ms_62 (by omega) hq ho) (fun _ M1 h => ?_)
  show mm_Runs L xs (d + 1) 114 (238, [some (.ref 35), z1, z2, z3], [], M1) o
  refine mm_Runs.seq (l := [(238, .aload_n 0, 1), (239, .getfield 35, 3)]) (S2 := (242, [some (.ref 35), z1, z2, z3], [.ref 5], M1)) (by decide +kernel) (hO := mm_own_114) rfl ?_
  refine mm_R_call (v := mm_wv) h hA (k2 := 64) (as := [.ref 5]) (r := []) rfl (fun _ => rfl) (fun q hq o ho => ms_64 (by omega) hq ho) (fun _ M2 h => ?_)
  show mm_Runs L xs (d + 1) 114 (245, [some (.ref 35), z1, z2, z3], [], M2) o
  cases h
  exact mm_R_retv rfl rfl hA
set_option maxRecDepth 8000 in
set_option maxHeartbeats 4000000 in
theorem ms_114 {L : Nat} {xs : Nat → Int32} {d : Nat} (hd : 3 ≤ d) {M : mm_M} {q : (Unit ⊕ Nat) × mm_M} {o : mm_E} (h : mf_114 M = some q) (hA : mm_A (mm_Kr mm_wv) q o) : mm_Runs L xs d 114 (0, mm_ent (mm_ml 114) [.ref 35], [], M) o := by
  unfold mf_114 at h
  obtain ⟨d, rfl⟩ := mm_d1 (n := 2) hd
  show mm_Runs L xs (d + 1) 114 (0, [some (.ref 35), none, none, none], [], M) o
  refine mm_Runs.seq (l := [(0, .aload_n 0, 1), (1, .getfield 18, 3), (4, .iconst 0, 1)]) (S2 := (5, [some (.ref 35), none, none, none], [.int (0 : Int32), .ref 38], M)) (by decide +kernel) (hO := mm_own_114) rfl ?_
  refine mm_R_call (v := mm_wv) h hA (k2 := 290) (as := [.ref 38, .int (0 : Int32)]) (r := []) rfl (fun _ => rfl) (fun q hq o ho => ms_290 rfl (by omega) hq ho) (fun _ M1 h => ?_)
  show mm_Runs L xs (d + 1) 114 (8, [some (.ref 35), none, none, none], [], M1) o
  refine mm_Runs.seq (l := [(8, .aload_n 0, 1), (9, .getfield 35, 3), (12, .aload_n 0, 1), (13, .getfield 39, 3), (16, .i2l, 1), (17, .aload_n 0, 1), (18, .getfield 53, 3)]) (S2 := (21, [some (.ref 35), none, none, none], [.int (M1.1 35 9), .long (M1.1 35 8).toInt64, .ref 5], M1)) (by decide +kernel) (hO := mm_own_114) rfl ?_
  refine mm_R_call (v := mm_wv) h hA (k2 := 62) (as := [.ref 5, .long (M1.1 35 8).toInt64, .int (M1.1 35 9)]) (r := []) rfl (fun _ => rfl) (fun q hq o ho => ms_62 (by omega) hq ho) (fun _ M2 h => ?_)
  show mm_Runs L xs (d + 1) 114 (24, [some (.ref 35), none, none, none], [], M2) o
  refine mm_Runs.seq (l := [(24, .iconst 0, 1), (25, .istore_n 1, 1)]) (S2 := (26, [some (.ref 35), some (.int (0 : Int32)), none, none], [], M2)) (by decide +kernel) (hO := mm_own_114) rfl ?_
  have hp : mp_114_26 L xs (d + 1) (0 : Int32) M2 o := by
    refine ms_114_L26 hd h hA (fun r4 M3 h => ?_)
    intro y5 y6 y7
    show mm_Runs L xs (d + 1) 114 (220, [some (.ref 35), y5, y6, y7], [], M3) o
    exact (ms_114_j220 hd h hA : mp_114_220 L xs (d + 1) M3 o) y5 y6 y7
  exact hp none none
-- 112: PlainPacks$Words.writeLow()V (depth 4)
theorem mm_own_112 : mm_own 112 = 8 := rfl
set_option maxRecDepth 8000 in
set_option maxHeartbeats 4000000 in
theorem ms_112 {L : Nat} {xs : Nat → Int32} {d : Nat} (hd : 4 ≤ d) {M : mm_M} {q : (Unit ⊕ Nat) × mm_M} {o : mm_E} (h : mf_112 M = some q) (hA : mm_A (mm_Kr mm_wv) q o) : mm_Runs L xs d 112 (0, mm_ent (mm_ml 112) [.ref 35], [], M) o := by
  unfold mf_112 at h
  obtain ⟨d, rfl⟩ := mm_d1 (n := 3) hd
  show mm_Runs L xs (d + 1) 112 (0, [some (.ref 35)], [], M) o
  refine mm_Runs.seq (l := [(0, .aload_n 0, 1), (1, .getfield 35, 3), (4, .bipush 8, 2)]) (S2 := (6, [some (.ref 35)], [.int (8 : Int32), .ref 5], M)) (by decide +kernel) (hO := mm_own_112) rfl ?_
  refine mm_R_call (v := mm_wv) h hA (k2 := 57) (as := [.ref 5, .int (8 : Int32)]) (r := []) rfl (fun _ => rfl) (fun q hq o ho => ms_57 (by omega) hq ho) (fun _ M1 h => ?_)
  show mm_Runs L xs (d + 1) 112 (9, [some (.ref 35)], [], M1) o
  refine mm_Runs.seq (l := [(9, .aload_n 0, 1), (10, .bipush 8, 2), (12, .iconst 0, 1)]) (S2 := (13, [some (.ref 35)], [.int (0 : Int32), .int (8 : Int32), .ref 35], M1)) (by decide +kernel) (hO := mm_own_112) rfl ?_
  refine mm_R_call (v := mm_wv) h hA (k2 := 104) (as := [.ref 35, .int (8 : Int32), .int (0 : Int32)]) (r := []) rfl (fun _ => rfl) (fun q hq o ho => ms_104 (by omega) hq ho) (fun _ M2 h => ?_)
  show mm_Runs L xs (d + 1) 112 (16, [some (.ref 35)], [], M2) o
  refine mm_Runs.seq (l := [(16, .aload_n 0, 1)]) (S2 := (17, [some (.ref 35)], [.ref 35], M2)) (by decide +kernel) (hO := mm_own_112) rfl ?_
  refine mm_R_call (v := mm_wv) h hA (k2 := 114) (as := [.ref 35]) (r := []) rfl (fun _ => rfl) (fun q hq o ho => ms_114 (by omega) hq ho) (fun _ M3 h => ?_)
  show mm_Runs L xs (d + 1) 112 (20, [some (.ref 35)], [], M3) o
  cases h
  exact mm_R_retv rfl rfl hA
-- 113: PlainPacks$Words.writeHigh()V (depth 4)
theorem mm_own_113 : mm_own 113 = 8 := rfl
set_option maxRecDepth 8000 in
set_option maxHeartbeats 4000000 in
theorem ms_113 {L : Nat} {xs : Nat → Int32} {d : Nat} (hd : 4 ≤ d) {M : mm_M} {q : (Unit ⊕ Nat) × mm_M} {o : mm_E} (h : mf_113 M = some q) (hA : mm_A (mm_Kr mm_wv) q o) : mm_Runs L xs d 113 (0, mm_ent (mm_ml 113) [.ref 35], [], M) o := by
  unfold mf_113 at h
  obtain ⟨d, rfl⟩ := mm_d1 (n := 3) hd
  show mm_Runs L xs (d + 1) 113 (0, [some (.ref 35)], [], M) o
  refine mm_Runs.seq (l := [(0, .aload_n 0, 1), (1, .getfield 35, 3), (4, .iconst 1, 1), (5, .putfield 121, 3), (8, .aload_n 0, 1), (9, .bipush 8, 2), (11, .iconst 1, 1)]) (S2 := (12, [some (.ref 35)], [.int (1 : Int32), .int (8 : Int32), .ref 35], (mm_pi M 5 3 (1 : Int32)))) (by decide +kernel) (hO := mm_own_113) rfl ?_
  refine mm_R_call (v := mm_wv) h hA (k2 := 104) (as := [.ref 35, .int (8 : Int32), .int (1 : Int32)]) (r := []) rfl (fun _ => rfl) (fun q hq o ho => ms_104 (by omega) hq ho) (fun _ M1 h => ?_)
  show mm_Runs L xs (d + 1) 113 (15, [some (.ref 35)], [], M1) o
  refine mm_Runs.seq (l := [(15, .aload_n 0, 1)]) (S2 := (16, [some (.ref 35)], [.ref 35], M1)) (by decide +kernel) (hO := mm_own_113) rfl ?_
  refine mm_R_call (v := mm_wv) h hA (k2 := 114) (as := [.ref 35]) (r := []) rfl (fun _ => rfl) (fun q hq o ho => ms_114 (by omega) hq ho) (fun _ M2 h => ?_)
  show mm_Runs L xs (d + 1) 113 (19, [some (.ref 35)], [], M2) o
  cases h
  exact mm_R_retv rfl rfl hA
-- 132: PlainPacks$Pieces.writeMore(I)V (depth 1)
theorem mm_own_132 : mm_own 132 = 9 := rfl
def mp_132_9 (L : Nat) (xs : Nat → Int32) (d : Nat) (v1 : Int32) (v2 : Int32) (M : mm_M) (o : mm_E) : Prop := mm_Runs L xs d 132 (9, [some (.ref 41), some (.int v1), some (.int v2)], [], M) o
def mp_132_37 (L : Nat) (xs : Nat → Int32) (d : Nat) (v1 : Int32) (M : mm_M) (o : mm_E) : Prop := ∀ z2 : Option Value, mm_Runs L xs d 132 (37, [some (.ref 41), some (.int v1), z2], [], M) o
set_option maxRecDepth 8000 in
set_option maxHeartbeats 4000000 in
theorem ms_132_b9 {L : Nat} {xs : Nat → Int32} {d : Nat} (hd : 1 ≤ d) {v1 : Int32} {v2 : Int32} {M : mm_M} {q : (((Int32) ⊕ (Unit)) ⊕ Nat) × mm_M} {o : mm_E} (h : mf_132_b9 v1 v2 M = some q) (hA : mm_A (mm_K2 (fun s M o => mp_132_9 L xs (d) v1 s M o) (fun r M o => mp_132_37 L xs (d) v1 M o)) q o) : mp_132_9 L xs d v1 v2 M o := by
  unfold mf_132_b9 at h
  obtain ⟨d, rfl⟩ := mm_d1 (n := 0) hd
  show mm_Runs L xs (d + 1) 132 (9, [some (.ref 41), some (.int v1), some (.int v2)], [], M) o
  refine mm_Runs.seq (l := [(9, .iload_n 2, 1), (10, .iload_n 1, 1), (11, .bipush 15, 2), (13, .isub, 1), (14, .sipush 255, 3), (17, .idiv, 1)]) (S2 := (18, [some (.ref 41), some (.int v1), some (.int v2)], [.int ((v1 - (15 : Int32)) / (255 : Int32)), .int v2], M)) (by decide +kernel) (hO := mm_own_132) rfl ?_
  refine mm_R_ige (t := 37) rfl rfl rfl (fun hc => ?_) (fun hc => ?_)
  · replace h := mm_ip hc h
    refine mm_Runs.seq (l := [(21, .aload_n 0, 1), (22, .getfield 19, 3), (25, .sipush 255, 3)]) (S2 := (28, [some (.ref 41), some (.int v1), some (.int v2)], [.int (255 : Int32), .ref 5], M)) (by decide +kernel) (hO := mm_own_132) rfl ?_
    refine mm_R_call (v := mm_wv) h hA (k2 := 57) (as := [.ref 5, .int (255 : Int32)]) (r := []) rfl (fun _ => rfl) (fun q hq o ho => ms_57 (by omega) hq ho) (fun _ M1 h => ?_)
    show mm_Runs L xs (d + 1) 132 (31, [some (.ref 41), some (.int v1), some (.int v2)], [], M1) o
    refine mm_Runs.seq (l := [(31, .iinc 2 1, 3), (34, .goto (-25), 3)]) (S2 := (9, [some (.ref 41), some (.int v1), some (.int (v2 + (1 : Int32)))], [], M1)) (by decide +kernel) (hO := mm_own_132) rfl ?_
    cases h
    exact (show mp_132_9 L xs (d + 1) v1 (v2 + (1 : Int32)) M1 o from hA)
  · replace h := mm_iq hc h
    cases h
    exact (show mp_132_37 L xs (d + 1) v1 M o from hA) (some (.int v2))
theorem ms_132_L9 {L : Nat} {xs : Nat → Int32} {d : Nat} (hd : 1 ≤ d) {v1 : Int32} {v2 : Int32} {β : Type} {K : β → mm_M → mm_E → Prop} {F : (Unit) → mm_M → mm_O β} {M : mm_M} {q : (β ⊕ Nat) × mm_M} {o : mm_E} (h : mm_B (mf_132_L9 v1 v2 M) F = some q) (hA : mm_A K q o) (hx : ∀ (r : (Unit)) (M2 : mm_M), F r M2 = some q → (fun r M o => mp_132_37 L xs (d) v1 M o) r M2 o) : mp_132_9 L xs d v1 v2 M o := by
  unfold mf_132_L9 at h
  exact mm_R_loop (step := (fun s M => mf_132_b9 v1 s M)) (s := v2) (M := M) (P := (fun s M o => mp_132_9 L xs (d) v1 s M o)) (X := (fun r M o => mp_132_37 L xs (d) v1 M o)) h hA (fun s M q hq hA => ms_132_b9 (v1 := v1) (v2 := s) (M := M) (q := q) hd hq hA) hx
set_option maxRecDepth 8000 in
set_option maxHeartbeats 4000000 in
theorem ms_132_j37 {L : Nat} {xs : Nat → Int32} {d : Nat} (hd : 1 ≤ d) {v1 : Int32} {M : mm_M} {q : (Unit ⊕ Nat) × mm_M} {o : mm_E} (h : mf_132_j37 v1 M = some q) (hA : mm_A (mm_Kr mm_wv) q o) : mp_132_37 L xs d v1 M o := by
  unfold mf_132_j37 at h
  obtain ⟨d, rfl⟩ := mm_d1 (n := 0) hd
  intro z2
  show mm_Runs L xs (d + 1) 132 (37, [some (.ref 41), some (.int v1), z2], [], M) o
  refine mm_Runs.seq (l := [(37, .aload_n 0, 1), (38, .getfield 19, 3), (41, .iload_n 1, 1), (42, .bipush 15, 2), (44, .isub, 1), (45, .sipush 255, 3), (48, .irem, 1)]) (S2 := (49, [some (.ref 41), some (.int v1), z2], [.int (mm_rem (v1 - (15 : Int32)) (255 : Int32)), .ref 5], M)) (by decide +kernel) (hO := mm_own_132) rfl ?_
  refine mm_R_call (v := mm_wv) h hA (k2 := 57) (as := [.ref 5, .int (mm_rem (v1 - (15 : Int32)) (255 : Int32))]) (r := []) rfl (fun _ => rfl) (fun q hq o ho => ms_57 (by omega) hq ho) (fun _ M1 h => ?_)
  show mm_Runs L xs (d + 1) 132 (52, [some (.ref 41), some (.int v1), z2], [], M1) o
  cases h
  exact mm_R_retv rfl rfl hA
set_option maxRecDepth 8000 in
set_option maxHeartbeats 4000000 in
theorem ms_132 {L : Nat} {xs : Nat → Int32} {d : Nat} (hd : 1 ≤ d) {v1 : Int32} {M : mm_M} {q : (Unit ⊕ Nat) × mm_M} {o : mm_E} (h : mf_132 v1 M = some q) (hA : mm_A (mm_Kr mm_wv) q o) : mm_Runs L xs d 132 (0, mm_ent (mm_ml 132) [.ref 41, .int v1], [], M) o := by
  unfold mf_132 at h
  obtain ⟨d, rfl⟩ := mm_d1 (n := 0) hd
  show mm_Runs L xs (d + 1) 132 (0, [some (.ref 41), some (.int v1), none], [], M) o
  refine mm_Runs.seq (l := [(0, .iload_n 1, 1), (1, .bipush 15, 2)]) (S2 := (3, [some (.ref 41), some (.int v1), none], [.int (15 : Int32), .int v1], M)) (by decide +kernel) (hO := mm_own_132) rfl ?_
  refine mm_R_ige (t := 7) rfl rfl rfl (fun hc => ?_) (fun hc => ?_)
  · replace h := mm_ip hc h
    cases h
    exact mm_R_retv rfl rfl hA
  · replace h := mm_iq hc h
    refine mm_Runs.seq (l := [(7, .iconst 0, 1), (8, .istore_n 2, 1)]) (S2 := (9, [some (.ref 41), some (.int v1), some (.int (0 : Int32))], [], M)) (by decide +kernel) (hO := mm_own_132) rfl ?_
    have hp : mp_132_9 L xs (d + 1) v1 (0 : Int32) M o := by
      refine ms_132_L9 hd h hA (fun r2 M1 h => ?_)
      intro y3
      show mm_Runs L xs (d + 1) 132 (37, [some (.ref 41), some (.int v1), y3], [], M1) o
      exact (ms_132_j37 hd h hA : mp_132_37 L xs (d + 1) v1 M1 o) y3
    exact hp
-- 131: PlainPacks$Pieces.writePlainPart(III)V (depth 2)
theorem mm_own_131 : mm_own 131 = 9 := rfl
set_option maxRecDepth 8000 in
set_option maxHeartbeats 4000000 in
theorem ms_131 {L : Nat} {xs : Nat → Int32} {d : Nat} (hd : 2 ≤ d) {v1 : Int32} {v2 : Int32} {v3 : Int32} {M : mm_M} {q : (Unit ⊕ Nat) × mm_M} {o : mm_E} (h : mf_131 v1 v2 v3 M = some q) (hA : mm_A (mm_Kr mm_wv) q o) : mm_Runs L xs d 131 (0, mm_ent (mm_ml 131) [.ref 41, .int v1, .int v2, .int v3], [], M) o := by
  unfold mf_131 at h
  obtain ⟨d, rfl⟩ := mm_d1 (n := 1) hd
  show mm_Runs L xs (d + 1) 131 (0, [some (.ref 41), some (.int v1), some (.int v2), some (.int v3)], [], M) o
  refine mm_Runs.seq (l := [(0, .aload_n 0, 1), (1, .getfield 19, 3), (4, .iload_n 2, 1), (5, .iload_n 1, 1), (6, .isub, 1), (7, .bipush 15, 2)]) (S2 := (9, [some (.ref 41), some (.int v1), some (.int v2), some (.int v3)], [.int (15 : Int32), .int (v2 - v1), .ref 5], M)) (by decide +kernel) (hO := mm_own_131) rfl ?_
  refine mm_R_intr (st2 := [.int (mm_min (v2 - v1) (15 : Int32)), .ref 5]) (M2 := M) rfl rfl (by omega) ?_
  refine mm_Runs.seq (l := [(12, .bipush 16, 2), (14, .imul, 1), (15, .iload_n 3, 1), (16, .iadd, 1)]) (S2 := (17, [some (.ref 41), some (.int v1), some (.int v2), some (.int v3)], [.int (((mm_min (v2 - v1) (15 : Int32)) * (16 : Int32)) + v3), .ref 5], M)) (by decide +kernel) (hO := mm_own_131) rfl ?_
  refine mm_R_call (v := mm_wv) h hA (k2 := 57) (as := [.ref 5, .int (((mm_min (v2 - v1) (15 : Int32)) * (16 : Int32)) + v3)]) (r := []) rfl (fun _ => rfl) (fun q hq o ho => ms_57 (by omega) hq ho) (fun _ M1 h => ?_)
  show mm_Runs L xs (d + 1) 131 (20, [some (.ref 41), some (.int v1), some (.int v2), some (.int v3)], [], M1) o
  refine mm_Runs.seq (l := [(20, .aload_n 0, 1), (21, .iload_n 2, 1), (22, .iload_n 1, 1), (23, .isub, 1)]) (S2 := (24, [some (.ref 41), some (.int v1), some (.int v2), some (.int v3)], [.int (v2 - v1), .ref 41], M1)) (by decide +kernel) (hO := mm_own_131) rfl ?_
  refine mm_R_call (v := mm_wv) h hA (k2 := 132) (as := [.ref 41, .int (v2 - v1)]) (r := []) rfl (fun _ => rfl) (fun q hq o ho => ms_132 (by omega) hq ho) (fun _ M2 h => ?_)
  show mm_Runs L xs (d + 1) 131 (27, [some (.ref 41), some (.int v1), some (.int v2), some (.int v3)], [], M2) o
  refine mm_Runs.seq (l := [(27, .aload_n 0, 1), (28, .getfield 19, 3), (31, .aload_n 0, 1), (32, .getfield 9, 3), (35, .getfield 95, 3), (38, .iload_n 1, 1), (39, .iload_n 2, 1)]) (S2 := (40, [some (.ref 41), some (.int v1), some (.int v2), some (.int v3)], [.int v2, .int v1, .ref 2, .ref 5], M2)) (by decide +kernel) (hO := mm_own_131) rfl ?_
  refine mm_R_call (v := mm_wv) h hA (k2 := 58) (as := [.ref 5, .ref 2, .int v1, .int v2]) (r := []) rfl (fun _ => rfl) (fun q hq o ho => ms_58 (by omega) hq ho) (fun _ M3 h => ?_)
  show mm_Runs L xs (d + 1) 131 (43, [some (.ref 41), some (.int v1), some (.int v2), some (.int v3)], [], M3) o
  cases h
  exact mm_R_retv rfl rfl hA
-- 130: PlainPacks$Pieces.writePiece(III)V (depth 3)
theorem mm_own_130 : mm_own 130 = 9 := rfl
set_option maxRecDepth 8000 in
set_option maxHeartbeats 4000000 in
theorem ms_130 {L : Nat} {xs : Nat → Int32} {d : Nat} (hd : 3 ≤ d) {v1 : Int32} {v2 : Int32} {v3 : Int32} {M : mm_M} {q : (Unit ⊕ Nat) × mm_M} {o : mm_E} (h : mf_130 v1 v2 v3 M = some q) (hA : mm_A (mm_Kr mm_wv) q o) : mm_Runs L xs d 130 (0, mm_ent (mm_ml 130) [.ref 41, .int v1, .int v2, .int v3], [], M) o := by
  unfold mf_130 at h
  obtain ⟨d, rfl⟩ := mm_d1 (n := 2) hd
  show mm_Runs L xs (d + 1) 130 (0, [some (.ref 41), some (.int v1), some (.int v2), some (.int v3)], [], M) o
  refine mm_Runs.seq (l := [(0, .aload_n 0, 1), (1, .iload_n 1, 1), (2, .iload_n 2, 1), (3, .iload_n 3, 1), (4, .bipush 15, 2)]) (S2 := (6, [some (.ref 41), some (.int v1), some (.int v2), some (.int v3)], [.int (15 : Int32), .int v3, .int v2, .int v1, .ref 41], M)) (by decide +kernel) (hO := mm_own_130) rfl ?_
  refine mm_R_intr (st2 := [.int (mm_min v3 (15 : Int32)), .int v2, .int v1, .ref 41]) (M2 := M) rfl rfl (by omega) ?_
  refine mm_R_call (v := mm_wv) h hA (k2 := 131) (as := [.ref 41, .int v1, .int v2, .int (mm_min v3 (15 : Int32))]) (r := []) rfl (fun _ => rfl) (fun q hq o ho => ms_131 (by omega) hq ho) (fun _ M1 h => ?_)
  show mm_Runs L xs (d + 1) 130 (12, [some (.ref 41), some (.int v1), some (.int v2), some (.int v3)], [], M1) o
  refine mm_Runs.seq (l := [(12, .aload_n 0, 1), (13, .getfield 19, 3), (16, .aload_n 0, 1), (17, .getfield 23, 3), (20, .getfield 144, 3), (23, .i2l, 1), (24, .iconst 2, 1)]) (S2 := (25, [some (.ref 41), some (.int v1), some (.int v2), some (.int v3)], [.int (2 : Int32), .long (M1.1 13 1).toInt64, .ref 5], M1)) (by decide +kernel) (hO := mm_own_130) rfl ?_
  refine mm_R_call (v := mm_wv) h hA (k2 := 59) (as := [.ref 5, .long (M1.1 13 1).toInt64, .int (2 : Int32)]) (r := []) rfl (fun _ => rfl) (fun q hq o ho => ms_59 (by omega) hq ho) (fun _ M2 h => ?_)
  show mm_Runs L xs (d + 1) 130 (28, [some (.ref 41), some (.int v1), some (.int v2), some (.int v3)], [], M2) o
  refine mm_Runs.seq (l := [(28, .aload_n 0, 1), (29, .iload_n 3, 1)]) (S2 := (30, [some (.ref 41), some (.int v1), some (.int v2), some (.int v3)], [.int v3, .ref 41], M2)) (by decide +kernel) (hO := mm_own_130) rfl ?_
  refine mm_R_call (v := mm_wv) h hA (k2 := 132) (as := [.ref 41, .int v3]) (r := []) rfl (fun _ => rfl) (fun q hq o ho => ms_132 (by omega) hq ho) (fun _ M3 h => ?_)
  show mm_Runs L xs (d + 1) 130 (33, [some (.ref 41), some (.int v1), some (.int v2), some (.int v3)], [], M3) o
  cases h
  exact mm_R_retv rfl rfl hA
-- 129: PlainPacks$Pieces.writePieces()V (depth 4)
theorem mm_own_129 : mm_own 129 = 9 := rfl
def mp_129_19 (L : Nat) (xs : Nat → Int32) (d : Nat) (v1 : Int32) (v2 : Int32) (v3 : Int32) (M : mm_M) (o : mm_E) : Prop := mm_Runs L xs d 129 (19, [some (.ref 41), some (.int v1), some (.int v2), some (.int v3)], [], M) o
def mp_129_99 (L : Nat) (xs : Nat → Int32) (d : Nat) (v1 : Int32) (v2 : Int32) (M : mm_M) (o : mm_E) : Prop := ∀ z3 : Option Value, mm_Runs L xs d 129 (99, [some (.ref 41), some (.int v1), some (.int v2), z3], [], M) o
set_option maxRecDepth 8000 in
set_option maxHeartbeats 4000000 in
theorem ms_129_b19 {L : Nat} {xs : Nat → Int32} {d : Nat} (hd : 4 ≤ d) {v1 : Int32} {v2 : Int32} {v3 : Int32} {M : mm_M} {q : (((Int32 × Int32) ⊕ (Int32)) ⊕ Nat) × mm_M} {o : mm_E} (h : mf_129_b19 v1 v2 v3 M = some q) (hA : mm_A (mm_K2 (fun s M o => mp_129_19 L xs (d) v1 s.1 s.2 M o) (fun r M o => mp_129_99 L xs (d) v1 r M o)) q o) : mp_129_19 L xs d v1 v2 v3 M o := by
  unfold mf_129_b19 at h
  obtain ⟨d, rfl⟩ := mm_d1 (n := 3) hd
  show mm_Runs L xs (d + 1) 129 (19, [some (.ref 41), some (.int v1), some (.int v2), some (.int v3)], [], M) o
  refine mm_Runs.seq (l := [(19, .iload_n 3, 1), (20, .iload_n 1, 1), (21, .bipush 12, 2), (23, .isub, 1)]) (S2 := (24, [some (.ref 41), some (.int v1), some (.int v2), some (.int v3)], [.int (v1 - (12 : Int32)), .int v3], M)) (by decide +kernel) (hO := mm_own_129) rfl ?_
  refine mm_R_igt (t := 99) rfl rfl rfl (fun hc => ?_) (fun hc => ?_)
  · replace h := mm_ip hc h
    cases h
    exact (show mp_129_99 L xs (d + 1) v1 v2 M o from hA) (some (.int v3))
  · replace h := mm_iq hc h
    refine mm_Runs.seq (l := [(27, .aload_n 0, 1), (28, .getfield 23, 3), (31, .iload_n 3, 1), (32, .iload_n 1, 1), (33, .iconst 5, 1), (34, .isub, 1), (35, .iload_n 3, 1), (36, .isub, 1)]) (S2 := (37, [some (.ref 41), some (.int v1), some (.int v2), some (.int v3)], [.int ((v1 - (5 : Int32)) - v3), .int v3, .ref 13], M)) (by decide +kernel) (hO := mm_own_129) rfl ?_
    refine mm_R_call (v := mm_wv) h hA (k2 := 71) (as := [.ref 13, .int v3, .int ((v1 - (5 : Int32)) - v3)]) (r := []) rfl (fun _ => rfl) (fun q hq o ho => ms_71 (by omega) hq ho) (fun _ M1 h => ?_)
    show mm_Runs L xs (d + 1) 129 (40, [some (.ref 41), some (.int v1), some (.int v2), some (.int v3)], [], M1) o
    refine mm_Runs.seq (l := [(40, .aload_n 0, 1), (41, .getfield 23, 3), (44, .getfield 141, 3), (47, .iconst 4, 1)]) (S2 := (48, [some (.ref 41), some (.int v1), some (.int v2), some (.int v3)], [.int (4 : Int32), .int (M1.1 13 0)], M1)) (by decide +kernel) (hO := mm_own_129) rfl ?_
    refine mm_R_ilt (t := 93) rfl rfl rfl (fun hc => ?_) (fun hc => ?_)
    · replace h := mm_ip hc h
      refine mm_Runs.seq (l := [(93, .iinc 3 1, 3), (96, .goto (-77), 3)]) (S2 := (19, [some (.ref 41), some (.int v1), some (.int v2), some (.int (v3 + (1 : Int32)))], [], M1)) (by decide +kernel) (hO := mm_own_129) rfl ?_
      cases h
      exact (show mp_129_19 L xs (d + 1) v1 v2 (v3 + (1 : Int32)) M1 o from hA)
    · replace h := mm_iq hc h
      refine mm_Runs.seq (l := [(51, .aload_n 0, 1), (52, .getfield 23, 3), (55, .getfield 144, 3), (58, .ldc 147, 2)]) (S2 := (60, [some (.ref 41), some (.int v1), some (.int v2), some (.int v3)], [.int (65535 : Int32), .int (M1.1 13 1)], M1)) (by decide +kernel) (hO := mm_own_129) rfl ?_
      refine mm_R_igt (t := 93) rfl rfl rfl (fun hc => ?_) (fun hc => ?_)
      · replace h := mm_ip hc h
        refine mm_Runs.seq (l := [(93, .iinc 3 1, 3), (96, .goto (-77), 3)]) (S2 := (19, [some (.ref 41), some (.int v1), some (.int v2), some (.int (v3 + (1 : Int32)))], [], M1)) (by decide +kernel) (hO := mm_own_129) rfl ?_
        cases h
        exact (show mp_129_19 L xs (d + 1) v1 v2 (v3 + (1 : Int32)) M1 o from hA)
      · replace h := mm_iq hc h
        refine mm_Runs.seq (l := [(63, .aload_n 0, 1), (64, .iload_n 2, 1), (65, .iload_n 3, 1), (66, .aload_n 0, 1), (67, .getfield 23, 3), (70, .getfield 141, 3), (73, .iconst 4, 1), (74, .isub, 1)]) (S2 := (75, [some (.ref 41), some (.int v1), some (.int v2), some (.int v3)], [.int ((M1.1 13 0) - (4 : Int32)), .int v3, .int v2, .ref 41], M1)) (by decide +kernel) (hO := mm_own_129) rfl ?_
        refine mm_R_call (v := mm_wv) h hA (k2 := 130) (as := [.ref 41, .int v2, .int v3, .int ((M1.1 13 0) - (4 : Int32))]) (r := []) rfl (fun _ => rfl) (fun q hq o ho => ms_130 (by omega) hq ho) (fun _ M2 h => ?_)
        show mm_Runs L xs (d + 1) 129 (78, [some (.ref 41), some (.int v1), some (.int v2), some (.int v3)], [], M2) o
        refine mm_Runs.seq (l := [(78, .iload_n 3, 1), (79, .aload_n 0, 1), (80, .getfield 23, 3), (83, .getfield 141, 3), (86, .iadd, 1), (87, .istore_n 3, 1), (88, .iload_n 3, 1), (89, .istore_n 2, 1), (90, .goto (-71), 3)]) (S2 := (19, [some (.ref 41), some (.int v1), some (.int (v3 + (M2.1 13 0))), some (.int (v3 + (M2.1 13 0)))], [], M2)) (by decide +kernel) (hO := mm_own_129) rfl ?_
        cases h
        exact (show mp_129_19 L xs (d + 1) v1 (v3 + (M2.1 13 0)) (v3 + (M2.1 13 0)) M2 o from hA)
theorem ms_129_L19 {L : Nat} {xs : Nat → Int32} {d : Nat} (hd : 4 ≤ d) {v1 : Int32} {v2 : Int32} {v3 : Int32} {β : Type} {K : β → mm_M → mm_E → Prop} {F : (Int32) → mm_M → mm_O β} {M : mm_M} {q : (β ⊕ Nat) × mm_M} {o : mm_E} (h : mm_B (mf_129_L19 v1 (v2, v3) M) F = some q) (hA : mm_A K q o) (hx : ∀ (r : (Int32)) (M2 : mm_M), F r M2 = some q → (fun r M o => mp_129_99 L xs (d) v1 r M o) r M2 o) : mp_129_19 L xs d v1 v2 v3 M o := by
  unfold mf_129_L19 at h
  exact mm_R_loop (step := (fun s M => mf_129_b19 v1 s.1 s.2 M)) (s := (v2, v3)) (M := M) (P := (fun s M o => mp_129_19 L xs (d) v1 s.1 s.2 M o)) (X := (fun r M o => mp_129_99 L xs (d) v1 r M o)) h hA (fun s M q hq hA => ms_129_b19 (v1 := v1) (v2 := s.1) (v3 := s.2) (M := M) (q := q) hd hq hA) hx
set_option maxRecDepth 8000 in
set_option maxHeartbeats 4000000 in
theorem ms_129_j99 {L : Nat} {xs : Nat → Int32} {d : Nat} (hd : 4 ≤ d) {v1 : Int32} {v2 : Int32} {M : mm_M} {q : (Unit ⊕ Nat) × mm_M} {o : mm_E} (h : mf_129_j99 v1 v2 M = some q) (hA : mm_A (mm_Kr mm_wv) q o) : mp_129_99 L xs d v1 v2 M o := by
  unfold mf_129_j99 at h
  obtain ⟨d, rfl⟩ := mm_d1 (n := 3) hd
  intro z3
  show mm_Runs L xs (d + 1) 129 (99, [some (.ref 41), some (.int v1), some (.int v2), z3], [], M) o
  refine mm_Runs.seq (l := [(99, .aload_n 0, 1), (100, .iload_n 2, 1), (101, .iload_n 1, 1), (102, .iconst 0, 1)]) (S2 := (103, [some (.ref 41), some (.int v1), some (.int v2), z3], [.int (0 : Int32), .int v1, .int v2, .ref 41], M)) (by decide +kernel) (hO := mm_own_129) rfl ?_
  refine mm_R_call (v := mm_wv) h hA (k2 := 131) (as := [.ref 41, .int v2, .int v1, .int (0 : Int32)]) (r := []) rfl (fun _ => rfl) (fun q hq o ho => ms_131 (by omega) hq ho) (fun _ M1 h => ?_)
  show mm_Runs L xs (d + 1) 129 (106, [some (.ref 41), some (.int v1), some (.int v2), z3], [], M1) o
  cases h
  exact mm_R_retv rfl rfl hA
set_option maxRecDepth 8000 in
set_option maxHeartbeats 4000000 in
theorem ms_129 {L : Nat} {xs : Nat → Int32} {d : Nat} (hd : 4 ≤ d) {M : mm_M} {q : (Unit ⊕ Nat) × mm_M} {o : mm_E} (h : mf_129 M = some q) (hA : mm_A (mm_Kr mm_wv) q o) : mm_Runs L xs d 129 (0, mm_ent (mm_ml 129) [.ref 41], [], M) o := by
  unfold mf_129 at h
  obtain ⟨d, rfl⟩ := mm_d1 (n := 3) hd
  show mm_Runs L xs (d + 1) 129 (0, [some (.ref 41), none, none, none], [], M) o
  refine mm_Runs.seq (l := [(0, .aload_n 0, 1), (1, .getfield 9, 3), (4, .getfield 120, 3), (7, .istore_n 1, 1), (8, .aload_n 0, 1), (9, .getfield 23, 3)]) (S2 := (12, [some (.ref 41), some (.int (M.1 1 1)), none, none], [.ref 13], M)) (by decide +kernel) (hO := mm_own_129) rfl ?_
  refine mm_R_call (v := mm_wv) h hA (k2 := 70) (as := [.ref 13]) (r := []) rfl (fun _ => rfl) (fun q hq o ho => ms_70 (by omega) hq ho) (fun _ M1 h => ?_)
  show mm_Runs L xs (d + 1) 129 (15, [some (.ref 41), some (.int (M.1 1 1)), none, none], [], M1) o
  refine mm_Runs.seq (l := [(15, .iconst 0, 1), (16, .istore_n 2, 1), (17, .iconst 0, 1), (18, .istore_n 3, 1)]) (S2 := (19, [some (.ref 41), some (.int (M.1 1 1)), some (.int (0 : Int32)), some (.int (0 : Int32))], [], M1)) (by decide +kernel) (hO := mm_own_129) rfl ?_
  have hp : mp_129_19 L xs (d + 1) (M.1 1 1) (0 : Int32) (0 : Int32) M1 o := by
    refine ms_129_L19 hd h hA (fun r3 M2 h => ?_)
    intro y4
    show mm_Runs L xs (d + 1) 129 (99, [some (.ref 41), some (.int (M.1 1 1)), some (.int r3), y4], [], M2) o
    exact (ms_129_j99 hd h hA : mp_129_99 L xs (d + 1) (M.1 1 1) r3 M2 o) y4
  exact hp
