/-! MEANINGS 35 -/
-- 258: PlainPacksModel.moreBits(I)I (depth 0)
theorem mm_own_258 : mm_own 258 = 12 := rfl
noncomputable def mf_258 (v0 : Int32) (M : mm_M) : mm_O Int32 := if v0 < (265 : Int32) then (some (.inl (0 : Int32), M)) else (if v0 = (285 : Int32) then (some (.inl (0 : Int32), M)) else (some (.inl ((v0 - (261 : Int32)) / (4 : Int32)), M)))
set_option maxRecDepth 8000 in
set_option maxHeartbeats 4000000 in
theorem ms_258 {L : Nat} {xs : Nat → Int32} {d : Nat} (hd : 0 ≤ d) {v0 : Int32} {M : mm_M} {q : (Int32 ⊕ Nat) × mm_M} {o : mm_E} (h : mf_258 v0 M = some q) (hA : mm_A (mm_Kr mm_wi) q o) : mm_Runs L xs d 258 (0, mm_ent (mm_ml 258) [.int v0], [], M) o := by
  unfold mf_258 at h
  show mm_Runs L xs (d) 258 (0, [some (.int v0)], [], M) o
  refine mm_Runs.seq (l := [(0, .iload_n 0, 1), (1, .sipush 265, 3)]) (S2 := (4, [some (.int v0)], [.int (265 : Int32), .int v0], M)) (by decide +kernel) (hO := mm_own_258) rfl ?_
  refine mm_R_ilt (t := 14) rfl rfl rfl (fun hc => ?_) (fun hc => ?_)
  · replace h := mm_ip hc h
    refine mm_Runs.seq (l := [(14, .iconst 0, 1), (15, .goto 10, 3)]) (S2 := (25, [some (.int v0)], [.int (0 : Int32)], M)) (by decide +kernel) (hO := mm_own_258) rfl ?_
    cases h
    exact mm_R_reti rfl rfl hA
  · replace h := mm_iq hc h
    refine mm_Runs.seq (l := [(7, .iload_n 0, 1), (8, .sipush 285, 3)]) (S2 := (11, [some (.int v0)], [.int (285 : Int32), .int v0], M)) (by decide +kernel) (hO := mm_own_258) rfl ?_
    refine mm_R_ine (t := 18) rfl rfl rfl (fun hc => ?_) (fun hc => ?_)
    · replace h := mm_ip hc h
      refine mm_Runs.seq (l := [(14, .iconst 0, 1), (15, .goto 10, 3)]) (S2 := (25, [some (.int v0)], [.int (0 : Int32)], M)) (by decide +kernel) (hO := mm_own_258) rfl ?_
      cases h
      exact mm_R_reti rfl rfl hA
    · replace h := mm_iq hc h
      refine mm_Runs.seq (l := [(18, .iload_n 0, 1), (19, .sipush 261, 3), (22, .isub, 1), (23, .iconst 4, 1), (24, .idiv, 1)]) (S2 := (25, [some (.int v0)], [.int ((v0 - (261 : Int32)) / (4 : Int32))], M)) (by decide +kernel) (hO := mm_own_258) rfl ?_
      cases h
      exact mm_R_reti rfl rfl hA
-- 256: PlainPacksModel.leastDistance(I)I (depth 0)
theorem mm_own_256 : mm_own 256 = 12 := rfl
noncomputable def mf_256 (v0 : Int32) (M : mm_M) : mm_O Int32 := if v0 < (4 : Int32) then (some (.inl (v0 + (1 : Int32)), M)) else (some (.inl ((1 : Int32) + (mm_shl ((2 : Int32) + (mm_rem v0 (2 : Int32))) ((v0 / (2 : Int32)) - (1 : Int32)))), M))
set_option maxRecDepth 8000 in
set_option maxHeartbeats 4000000 in
theorem ms_256 {L : Nat} {xs : Nat → Int32} {d : Nat} (hd : 0 ≤ d) {v0 : Int32} {M : mm_M} {q : (Int32 ⊕ Nat) × mm_M} {o : mm_E} (h : mf_256 v0 M = some q) (hA : mm_A (mm_Kr mm_wi) q o) : mm_Runs L xs d 256 (0, mm_ent (mm_ml 256) [.int v0], [], M) o := by
  unfold mf_256 at h
  show mm_Runs L xs (d) 256 (0, [some (.int v0)], [], M) o
  refine mm_Runs.seq (l := [(0, .iload_n 0, 1), (1, .iconst 4, 1)]) (S2 := (2, [some (.int v0)], [.int (4 : Int32), .int v0], M)) (by decide +kernel) (hO := mm_own_256) rfl ?_
  refine mm_R_ige (t := 11) rfl rfl rfl (fun hc => ?_) (fun hc => ?_)
  · replace h := mm_ip hc h
    refine mm_Runs.seq (l := [(5, .iload_n 0, 1), (6, .iconst 1, 1), (7, .iadd, 1), (8, .goto 16, 3)]) (S2 := (24, [some (.int v0)], [.int (v0 + (1 : Int32))], M)) (by decide +kernel) (hO := mm_own_256) rfl ?_
    cases h
    exact mm_R_reti rfl rfl hA
  · replace h := mm_iq hc h
    refine mm_Runs.seq (l := [(11, .iconst 1, 1), (12, .iconst 2, 1), (13, .iload_n 0, 1), (14, .iconst 2, 1), (15, .irem, 1), (16, .iadd, 1), (17, .iload_n 0, 1), (18, .iconst 2, 1), (19, .idiv, 1), (20, .iconst 1, 1), (21, .isub, 1), (22, .ishl, 1), (23, .iadd, 1)]) (S2 := (24, [some (.int v0)], [.int ((1 : Int32) + (mm_shl ((2 : Int32) + (mm_rem v0 (2 : Int32))) ((v0 / (2 : Int32)) - (1 : Int32))))], M)) (by decide +kernel) (hO := mm_own_256) rfl ?_
    cases h
    exact mm_R_reti rfl rfl hA
-- 257: PlainPacksModel.distanceLetter(I)I (depth 1)
theorem mm_own_257 : mm_own 257 = 12 := rfl
def mp_257_2 (L : Nat) (xs : Nat → Int32) (d : Nat) (v0 : Int32) (v1 : Int32) (M : mm_M) (o : mm_E) : Prop := mm_Runs L xs d 257 (2, [some (.int v0), some (.int v1)], [], M) o
def mp_257_24 (L : Nat) (xs : Nat → Int32) (d : Nat) (v1 : Int32) (M : mm_M) (o : mm_E) : Prop := ∀ z0 : Option Value, mm_Runs L xs d 257 (24, [z0, some (.int v1)], [], M) o
noncomputable def mf_257_b2 (v0 : Int32) (v1 : Int32) (M : mm_M) : mm_O ((Int32) ⊕ (Int32)) := if v1 < (29 : Int32) then (mm_B (mf_256 (v1 + (1 : Int32)) M) (fun r1 M2 => if v0 < r1 then (some (.inl (.inr v1), M2)) else (some (.inl (.inl (v1 + (1 : Int32))), M2)))) else (some (.inl (.inr v1), M))
noncomputable def mf_257_L2 (v0 : Int32) (s : Int32) (M : mm_M) : mm_O (Int32) := mm_L (fun s M => mf_257_b2 v0 s M) s M
set_option maxRecDepth 8000 in
set_option maxHeartbeats 4000000 in
theorem ms_257_b2 {L : Nat} {xs : Nat → Int32} {d : Nat} (hd : 1 ≤ d) {v0 : Int32} {v1 : Int32} {M : mm_M} {q : (((Int32) ⊕ (Int32)) ⊕ Nat) × mm_M} {o : mm_E} (h : mf_257_b2 v0 v1 M = some q) (hA : mm_A (mm_K2 (fun s M o => mp_257_2 L xs (d) v0 s M o) (fun r M o => mp_257_24 L xs (d) r M o)) q o) : mp_257_2 L xs d v0 v1 M o := by
  unfold mf_257_b2 at h
  obtain ⟨d, rfl⟩ := mm_d1 (n := 0) hd
  show mm_Runs L xs (d + 1) 257 (2, [some (.int v0), some (.int v1)], [], M) o
  refine mm_Runs.seq (l := [(2, .iload_n 1, 1), (3, .bipush 29, 2)]) (S2 := (5, [some (.int v0), some (.int v1)], [.int (29 : Int32), .int v1], M)) (by decide +kernel) (hO := mm_own_257) rfl ?_
  refine mm_R_ige (t := 24) rfl rfl rfl (fun hc => ?_) (fun hc => ?_)
  · replace h := mm_ip hc h
    refine mm_Runs.seq (l := [(8, .iload_n 1, 1), (9, .iconst 1, 1), (10, .iadd, 1)]) (S2 := (11, [some (.int v0), some (.int v1)], [.int (v1 + (1 : Int32))], M)) (by decide +kernel) (hO := mm_own_257) rfl ?_
    refine mm_R_call (v := mm_wi) h hA (k2 := 256) (as := [.int (v1 + (1 : Int32))]) (r := []) rfl (fun _ => rfl) (fun q hq o ho => ms_256 (by omega) hq ho) (fun r1 M2 h => ?_)
    show mm_Runs L xs (d + 1) 257 (14, [some (.int v0), some (.int v1)], [.int r1], M2) o
    refine mm_Runs.seq (l := [(14, .iload_n 0, 1)]) (S2 := (15, [some (.int v0), some (.int v1)], [.int v0, .int r1], M2)) (by decide +kernel) (hO := mm_own_257) rfl ?_
    refine mm_R_igt (t := 24) rfl rfl rfl (fun hc => ?_) (fun hc => ?_)
    · replace h := mm_ip hc h
      cases h
      exact (show mp_257_24 L xs (d + 1) v1 M2 o from hA) (some (.int v0))
    · replace h := mm_iq hc h
      refine mm_Runs.seq (l := [(18, .iinc 1 1, 3), (21, .goto (-19), 3)]) (S2 := (2, [some (.int v0), some (.int (v1 + (1 : Int32)))], [], M2)) (by decide +kernel) (hO := mm_own_257) rfl ?_
      cases h
      exact (show mp_257_2 L xs (d + 1) v0 (v1 + (1 : Int32)) M2 o from hA)
  · replace h := mm_iq hc h
    cases h
    exact (show mp_257_24 L xs (d + 1) v1 M o from hA) (some (.int v0))
theorem ms_257_L2 {L : Nat} {xs : Nat → Int32} {d : Nat} (hd : 1 ≤ d) {v0 : Int32} {v1 : Int32} {β : Type} {K : β → mm_M → mm_E → Prop} {F : (Int32) → mm_M → mm_O β} {M : mm_M} {q : (β ⊕ Nat) × mm_M} {o : mm_E} (h : mm_B (mf_257_L2 v0 v1 M) F = some q) (hA : mm_A K q o) (hx : ∀ (r : (Int32)) (M2 : mm_M), F r M2 = some q → (fun r M o => mp_257_24 L xs (d) r M o) r M2 o) : mp_257_2 L xs d v0 v1 M o := mm_R_loop (s := v1) (M := M) (P := (fun s M o => mp_257_2 L xs (d) v0 s M o)) (X := (fun r M o => mp_257_24 L xs (d) r M o)) h hA (fun s M q hq hA => ms_257_b2 hd hq hA) hx
noncomputable def mf_257 (v0 : Int32) (M : mm_M) : mm_O Int32 := mm_B (mf_257_L2 v0 (0 : Int32) M) (fun r2 M1 => some (.inl r2, M1))
set_option maxRecDepth 8000 in
set_option maxHeartbeats 4000000 in
theorem ms_257 {L : Nat} {xs : Nat → Int32} {d : Nat} (hd : 1 ≤ d) {v0 : Int32} {M : mm_M} {q : (Int32 ⊕ Nat) × mm_M} {o : mm_E} (h : mf_257 v0 M = some q) (hA : mm_A (mm_Kr mm_wi) q o) : mm_Runs L xs d 257 (0, mm_ent (mm_ml 257) [.int v0], [], M) o := by
  unfold mf_257 at h
  obtain ⟨d, rfl⟩ := mm_d1 (n := 0) hd
  show mm_Runs L xs (d + 1) 257 (0, [some (.int v0), none], [], M) o
  refine mm_Runs.seq (l := [(0, .iconst 0, 1), (1, .istore_n 1, 1)]) (S2 := (2, [some (.int v0), some (.int (0 : Int32))], [], M)) (by decide +kernel) (hO := mm_own_257) rfl ?_
  have hp : mp_257_2 L xs (d + 1) v0 (0 : Int32) M o := by
    refine ms_257_L2 hd h hA (fun r2 M1 h => ?_)
    intro y3
    show mm_Runs L xs (d + 1) 257 (24, [y3, some (.int r2)], [], M1) o
    refine mm_Runs.seq (l := [(24, .iload_n 1, 1)]) (S2 := (25, [y3, some (.int r2)], [.int r2], M1)) (by decide +kernel) (hO := mm_own_257) rfl ?_
    cases h
    exact mm_R_reti rfl rfl hA
  exact hp
-- 259: PlainPacksModel.moreFar(I)I (depth 0)
theorem mm_own_259 : mm_own 259 = 12 := rfl
noncomputable def mf_259 (v0 : Int32) (M : mm_M) : mm_O Int32 := if v0 < (4 : Int32) then (some (.inl (0 : Int32), M)) else (some (.inl ((v0 / (2 : Int32)) - (1 : Int32)), M))
set_option maxRecDepth 8000 in
set_option maxHeartbeats 4000000 in
theorem ms_259 {L : Nat} {xs : Nat → Int32} {d : Nat} (hd : 0 ≤ d) {v0 : Int32} {M : mm_M} {q : (Int32 ⊕ Nat) × mm_M} {o : mm_E} (h : mf_259 v0 M = some q) (hA : mm_A (mm_Kr mm_wi) q o) : mm_Runs L xs d 259 (0, mm_ent (mm_ml 259) [.int v0], [], M) o := by
  unfold mf_259 at h
  show mm_Runs L xs (d) 259 (0, [some (.int v0)], [], M) o
  refine mm_Runs.seq (l := [(0, .iload_n 0, 1), (1, .iconst 4, 1)]) (S2 := (2, [some (.int v0)], [.int (4 : Int32), .int v0], M)) (by decide +kernel) (hO := mm_own_259) rfl ?_
  refine mm_R_ige (t := 9) rfl rfl rfl (fun hc => ?_) (fun hc => ?_)
  · replace h := mm_ip hc h
    refine mm_Runs.seq (l := [(5, .iconst 0, 1), (6, .goto 8, 3)]) (S2 := (14, [some (.int v0)], [.int (0 : Int32)], M)) (by decide +kernel) (hO := mm_own_259) rfl ?_
    cases h
    exact mm_R_reti rfl rfl hA
  · replace h := mm_iq hc h
    refine mm_Runs.seq (l := [(9, .iload_n 0, 1), (10, .iconst 2, 1), (11, .idiv, 1), (12, .iconst 1, 1), (13, .isub, 1)]) (S2 := (14, [some (.int v0)], [.int ((v0 / (2 : Int32)) - (1 : Int32))], M)) (by decide +kernel) (hO := mm_own_259) rfl ?_
    cases h
    exact mm_R_reti rfl rfl hA
-- 260: PlainPacksModel.packBlock()V (depth 5)
theorem mm_own_260 : mm_own 260 = 12 := rfl
def mp_260_25 (L : Nat) (xs : Nat → Int32) (d : Nat) (v1 : Int32) (M : mm_M) (o : mm_E) : Prop := ∀ z2 z3 : Option Value, mm_Runs L xs d 260 (25, [some (.ref 84), some (.int v1), z2, z3], [], M) o
def mp_260_159 (L : Nat) (xs : Nat → Int32) (d : Nat) (M : mm_M) (o : mm_E) : Prop := ∀ z1 z2 z3 : Option Value, mm_Runs L xs d 260 (159, [some (.ref 84), z1, z2, z3], [], M) o
def mp_260_106 (L : Nat) (xs : Nat → Int32) (d : Nat) (v1 : Int32) (v2 : Int32) (s1 : Int64) (M : mm_M) (o : mm_E) : Prop := ∀ z3 : Option Value, mm_Runs L xs d 260 (106, [some (.ref 84), some (.int v1), some (.int v2), z3], [.long s1, .ref 84], M) o
noncomputable def mf_260_j106 (v1 : Int32) (v2 : Int32) (s1 : Int64) (M : mm_M) : mm_O ((Int32) ⊕ (Unit)) := mm_B (mf_258 v2 M) (fun r1 M2 => mm_B (mf_249 s1 r1 (0 : Int32) M2) (fun _ M3 => mm_B (mf_257 (M3.1 84 45) M3) (fun r4 M5 => mm_B (mf_249 r4.toInt64 (5 : Int32) (1 : Int32) M5) (fun _ M6 => mm_B (mf_256 r4 M6) (fun r7 M8 => mm_B (mf_259 r4 M8) (fun r9 M10 => mm_B (mf_249 ((M6.1 84 45) - r7).toInt64 r9 (0 : Int32) M10) (fun _ M11 => some (.inl (.inl (v1 + (M11.1 84 44))), M11))))))))
set_option maxRecDepth 8000 in
set_option maxHeartbeats 4000000 in
theorem ms_260_j106 {L : Nat} {xs : Nat → Int32} {d : Nat} (hd : 5 ≤ d) {v1 : Int32} {v2 : Int32} {s1 : Int64} {M : mm_M} {q : (((Int32) ⊕ (Unit)) ⊕ Nat) × mm_M} {o : mm_E} (h : mf_260_j106 v1 v2 s1 M = some q) (hA : mm_A (mm_K2 (fun s M o => mp_260_25 L xs (d) s M o) (fun r M o => mp_260_159 L xs (d) M o)) q o) : mp_260_106 L xs d v1 v2 s1 M o := by
  unfold mf_260_j106 at h
  obtain ⟨d, rfl⟩ := mm_d1 (n := 4) hd
  intro z3
  show mm_Runs L xs (d + 1) 260 (106, [some (.ref 84), some (.int v1), some (.int v2), z3], [.long s1, .ref 84], M) o
  refine mm_Runs.seq (l := [(106, .iload_n 2, 1)]) (S2 := (107, [some (.ref 84), some (.int v1), some (.int v2), z3], [.int v2, .long s1, .ref 84], M)) (by decide +kernel) (hO := mm_own_260) rfl ?_
  refine mm_R_call (v := mm_wi) h hA (k2 := 258) (as := [.int v2]) (r := [.long s1, .ref 84]) rfl (fun _ => rfl) (fun q hq o ho => ms_258 (by omega) hq ho) (fun r1 M2 h => ?_)
  show mm_Runs L xs (d + 1) 260 (110, [some (.ref 84), some (.int v1), some (.int v2), z3], [.int r1, .long s1, .ref 84], M2) o
  refine mm_Runs.seq (l := [(110, .iconst 0, 1)]) (S2 := (111, [some (.ref 84), some (.int v1), some (.int v2), z3], [.int (0 : Int32), .int r1, .long s1, .ref 84], M2)) (by decide +kernel) (hO := mm_own_260) rfl ?_
  refine mm_R_call (v := mm_wv) h hA (k2 := 249) (as := [.ref 84, .long s1, .int r1, .int (0 : Int32)]) (r := []) rfl (fun _ => rfl) (fun q hq o ho => ms_249 (by omega) hq ho) (fun _ M3 h => ?_)
  show mm_Runs L xs (d + 1) 260 (114, [some (.ref 84), some (.int v1), some (.int v2), z3], [], M3) o
  refine mm_Runs.seq (l := [(114, .aload_n 0, 1), (115, .getfield 427, 3)]) (S2 := (118, [some (.ref 84), some (.int v1), some (.int v2), z3], [.int (M3.1 84 45)], M3)) (by decide +kernel) (hO := mm_own_260) rfl ?_
  refine mm_R_call (v := mm_wi) h hA (k2 := 257) (as := [.int (M3.1 84 45)]) (r := []) rfl (fun _ => rfl) (fun q hq o ho => ms_257 (by omega) hq ho) (fun r4 M5 h => ?_)
  show mm_Runs L xs (d + 1) 260 (121, [some (.ref 84), some (.int v1), some (.int v2), z3], [.int r4], M5) o
  refine mm_Runs.seq (l := [(121, .istore_n 3, 1), (122, .aload_n 0, 1), (123, .iload_n 3, 1), (124, .i2l, 1), (125, .iconst 5, 1), (126, .iconst 1, 1)]) (S2 := (127, [some (.ref 84), some (.int v1), some (.int v2), some (.int r4)], [.int (1 : Int32), .int (5 : Int32), .long r4.toInt64, .ref 84], M5)) (by decide +kernel) (hO := mm_own_260) rfl ?_
  refine mm_R_call (v := mm_wv) h hA (k2 := 249) (as := [.ref 84, .long r4.toInt64, .int (5 : Int32), .int (1 : Int32)]) (r := []) rfl (fun _ => rfl) (fun q hq o ho => ms_249 (by omega) hq ho) (fun _ M6 h => ?_)
  show mm_Runs L xs (d + 1) 260 (130, [some (.ref 84), some (.int v1), some (.int v2), some (.int r4)], [], M6) o
  refine mm_Runs.seq (l := [(130, .aload_n 0, 1), (131, .aload_n 0, 1), (132, .getfield 427, 3), (135, .iload_n 3, 1)]) (S2 := (136, [some (.ref 84), some (.int v1), some (.int v2), some (.int r4)], [.int r4, .int (M6.1 84 45), .ref 84], M6)) (by decide +kernel) (hO := mm_own_260) rfl ?_
  refine mm_R_call (v := mm_wi) h hA (k2 := 256) (as := [.int r4]) (r := [.int (M6.1 84 45), .ref 84]) rfl (fun _ => rfl) (fun q hq o ho => ms_256 (by omega) hq ho) (fun r7 M8 h => ?_)
  show mm_Runs L xs (d + 1) 260 (139, [some (.ref 84), some (.int v1), some (.int v2), some (.int r4)], [.int r7, .int (M6.1 84 45), .ref 84], M8) o
  refine mm_Runs.seq (l := [(139, .isub, 1), (140, .i2l, 1), (141, .iload_n 3, 1)]) (S2 := (142, [some (.ref 84), some (.int v1), some (.int v2), some (.int r4)], [.int r4, .long ((M6.1 84 45) - r7).toInt64, .ref 84], M8)) (by decide +kernel) (hO := mm_own_260) rfl ?_
  refine mm_R_call (v := mm_wi) h hA (k2 := 259) (as := [.int r4]) (r := [.long ((M6.1 84 45) - r7).toInt64, .ref 84]) rfl (fun _ => rfl) (fun q hq o ho => ms_259 (by omega) hq ho) (fun r9 M10 h => ?_)
  show mm_Runs L xs (d + 1) 260 (145, [some (.ref 84), some (.int v1), some (.int v2), some (.int r4)], [.int r9, .long ((M6.1 84 45) - r7).toInt64, .ref 84], M10) o
  refine mm_Runs.seq (l := [(145, .iconst 0, 1)]) (S2 := (146, [some (.ref 84), some (.int v1), some (.int v2), some (.int r4)], [.int (0 : Int32), .int r9, .long ((M6.1 84 45) - r7).toInt64, .ref 84], M10)) (by decide +kernel) (hO := mm_own_260) rfl ?_
  refine mm_R_call (v := mm_wv) h hA (k2 := 249) (as := [.ref 84, .long ((M6.1 84 45) - r7).toInt64, .int r9, .int (0 : Int32)]) (r := []) rfl (fun _ => rfl) (fun q hq o ho => ms_249 (by omega) hq ho) (fun _ M11 h => ?_)
  show mm_Runs L xs (d + 1) 260 (149, [some (.ref 84), some (.int v1), some (.int v2), some (.int r4)], [], M11) o
  refine mm_Runs.seq (l := [(149, .iload_n 1, 1), (150, .aload_n 0, 1), (151, .getfield 424, 3), (154, .iadd, 1), (155, .istore_n 1, 1), (156, .goto (-131), 3)]) (S2 := (25, [some (.ref 84), some (.int (v1 + (M11.1 84 44))), some (.int v2), some (.int r4)], [], M11)) (by decide +kernel) (hO := mm_own_260) rfl ?_
  cases h
  exact (show mp_260_25 L xs (d + 1) (v1 + (M11.1 84 44)) M11 o from hA) (some (.int v2)) (some (.int r4))
noncomputable def mf_260_b25 (v1 : Int32) (M : mm_M) : mm_O ((Int32) ⊕ (Unit)) := if v1 < (M.1 84 2) then (mm_B (mf_250 v1 (258 : Int32) (32768 : Int32) (M.1 84 2) M) (fun _ M1 => if (M1.1 84 44) < (3 : Int32) then (if mm_in v1 10000 then mm_B (mf_253 (M1.1 85 v1.toNatClampNeg) M1) (fun _ M2 => some (.inl (.inl (v1 + (1 : Int32))), M2)) else none) else (mm_B (mf_254 (M1.1 84 44) M1) (fun r3 M4 => mm_B (mf_253 r3 M4) (fun _ M5 => if r3 = (285 : Int32) then (mf_260_j106 v1 r3 (0 : Int64) M5) else (mm_B (mf_255 r3 M5) (fun r6 M7 => mf_260_j106 v1 r3 ((M5.1 84 44) - r6).toInt64 M7))))))) else (some (.inl (.inr ()), M))
noncomputable def mf_260_L25 (s : Int32) (M : mm_M) : mm_O (Unit) := mm_L (fun s M => mf_260_b25 s M) s M
set_option maxRecDepth 8000 in
set_option maxHeartbeats 4000000 in
theorem ms_260_b25 {L : Nat} {xs : Nat → Int32} {d : Nat} (hd : 5 ≤ d) {v1 : Int32} {M : mm_M} {q : (((Int32) ⊕ (Unit)) ⊕ Nat) × mm_M} {o : mm_E} (h : mf_260_b25 v1 M = some q) (hA : mm_A (mm_K2 (fun s M o => mp_260_25 L xs (d) s M o) (fun r M o => mp_260_159 L xs (d) M o)) q o) : mp_260_25 L xs d v1 M o := by
  unfold mf_260_b25 at h
  obtain ⟨d, rfl⟩ := mm_d1 (n := 4) hd
  intro z2 z3
  show mm_Runs L xs (d + 1) 260 (25, [some (.ref 84), some (.int v1), z2, z3], [], M) o
  refine mm_Runs.seq (l := [(25, .iload_n 1, 1), (26, .aload_n 0, 1), (27, .getfield 91, 3)]) (S2 := (30, [some (.ref 84), some (.int v1), z2, z3], [.int (M.1 84 2), .int v1], M)) (by decide +kernel) (hO := mm_own_260) rfl ?_
  refine mm_R_ige (t := 159) rfl rfl rfl (fun hc => ?_) (fun hc => ?_)
  · replace h := mm_ip hc h
    refine mm_Runs.seq (l := [(33, .aload_n 0, 1), (34, .iload_n 1, 1), (35, .sipush 258, 3), (38, .ldc 34, 2), (40, .aload_n 0, 1), (41, .getfield 91, 3)]) (S2 := (44, [some (.ref 84), some (.int v1), z2, z3], [.int (M.1 84 2), .int (32768 : Int32), .int (258 : Int32), .int v1, .ref 84], M)) (by decide +kernel) (hO := mm_own_260) rfl ?_
    refine mm_R_call (v := mm_wv) h hA (k2 := 250) (as := [.ref 84, .int v1, .int (258 : Int32), .int (32768 : Int32), .int (M.1 84 2)]) (r := []) rfl (fun _ => rfl) (fun q hq o ho => ms_250 (by omega) hq ho) (fun _ M1 h => ?_)
    show mm_Runs L xs (d + 1) 260 (47, [some (.ref 84), some (.int v1), z2, z3], [], M1) o
    refine mm_Runs.seq (l := [(47, .aload_n 0, 1), (48, .getfield 424, 3), (51, .iconst 3, 1)]) (S2 := (52, [some (.ref 84), some (.int v1), z2, z3], [.int (3 : Int32), .int (M1.1 84 44)], M1)) (by decide +kernel) (hO := mm_own_260) rfl ?_
    refine mm_R_ige (t := 71) rfl rfl rfl (fun hc => ?_) (fun hc => ?_)
    · replace h := mm_ip hc h
      refine mm_Runs.seq (l := [(55, .aload_n 0, 1), (56, .aload_n 0, 1), (57, .getfield 7, 3), (60, .iload_n 1, 1)]) (S2 := (61, [some (.ref 84), some (.int v1), z2, z3], [.int v1, .ref 85, .ref 84], M1)) (by decide +kernel) (hO := mm_own_260) rfl ?_
      obtain ⟨hb, h⟩ := mm_gd h
      refine mm_R_iald rfl rfl hb ?_
      refine mm_R_call (v := mm_wv) h hA (k2 := 253) (as := [.ref 84, .int (M1.1 85 v1.toNatClampNeg)]) (r := []) rfl (fun _ => rfl) (fun q hq o ho => ms_253 (by omega) hq ho) (fun _ M2 h => ?_)
      show mm_Runs L xs (d + 1) 260 (65, [some (.ref 84), some (.int v1), z2, z3], [], M2) o
      refine mm_Runs.seq (l := [(65, .iinc 1 1, 3), (68, .goto (-43), 3)]) (S2 := (25, [some (.ref 84), some (.int (v1 + (1 : Int32))), z2, z3], [], M2)) (by decide +kernel) (hO := mm_own_260) rfl ?_
      cases h
      exact (show mp_260_25 L xs (d + 1) (v1 + (1 : Int32)) M2 o from hA) z2 z3
    · replace h := mm_iq hc h
      refine mm_Runs.seq (l := [(71, .aload_n 0, 1), (72, .getfield 424, 3)]) (S2 := (75, [some (.ref 84), some (.int v1), z2, z3], [.int (M1.1 84 44)], M1)) (by decide +kernel) (hO := mm_own_260) rfl ?_
      refine mm_R_call (v := mm_wi) h hA (k2 := 254) (as := [.int (M1.1 84 44)]) (r := []) rfl (fun _ => rfl) (fun q hq o ho => ms_254 (by omega) hq ho) (fun r3 M4 h => ?_)
      show mm_Runs L xs (d + 1) 260 (78, [some (.ref 84), some (.int v1), z2, z3], [.int r3], M4) o
      refine mm_Runs.seq (l := [(78, .istore_n 2, 1), (79, .aload_n 0, 1), (80, .iload_n 2, 1)]) (S2 := (81, [some (.ref 84), some (.int v1), some (.int r3), z3], [.int r3, .ref 84], M4)) (by decide +kernel) (hO := mm_own_260) rfl ?_
      refine mm_R_call (v := mm_wv) h hA (k2 := 253) (as := [.ref 84, .int r3]) (r := []) rfl (fun _ => rfl) (fun q hq o ho => ms_253 (by omega) hq ho) (fun _ M5 h => ?_)
      show mm_Runs L xs (d + 1) 260 (84, [some (.ref 84), some (.int v1), some (.int r3), z3], [], M5) o
      refine mm_Runs.seq (l := [(84, .aload_n 0, 1), (85, .iload_n 2, 1), (86, .sipush 285, 3)]) (S2 := (89, [some (.ref 84), some (.int v1), some (.int r3), z3], [.int (285 : Int32), .int r3, .ref 84], M5)) (by decide +kernel) (hO := mm_own_260) rfl ?_
      refine mm_R_ine (t := 96) rfl rfl rfl (fun hc => ?_) (fun hc => ?_)
      · replace h := mm_ip hc h
        refine mm_Runs.seq (l := [(92, .lconst 0, 1), (93, .goto 13, 3)]) (S2 := (106, [some (.ref 84), some (.int v1), some (.int r3), z3], [.long (0 : Int64), .ref 84], M5)) (by decide +kernel) (hO := mm_own_260) rfl ?_
        exact (ms_260_j106 hd h hA : mp_260_106 L xs (d + 1) v1 r3 (0 : Int64) M5 o) z3
      · replace h := mm_iq hc h
        refine mm_Runs.seq (l := [(96, .aload_n 0, 1), (97, .getfield 424, 3), (100, .iload_n 2, 1)]) (S2 := (101, [some (.ref 84), some (.int v1), some (.int r3), z3], [.int r3, .int (M5.1 84 44), .ref 84], M5)) (by decide +kernel) (hO := mm_own_260) rfl ?_
        refine mm_R_call (v := mm_wi) h hA (k2 := 255) (as := [.int r3]) (r := [.int (M5.1 84 44), .ref 84]) rfl (fun _ => rfl) (fun q hq o ho => ms_255 (by omega) hq ho) (fun r6 M7 h => ?_)
        show mm_Runs L xs (d + 1) 260 (104, [some (.ref 84), some (.int v1), some (.int r3), z3], [.int r6, .int (M5.1 84 44), .ref 84], M7) o
        refine mm_Runs.seq (l := [(104, .isub, 1), (105, .i2l, 1)]) (S2 := (106, [some (.ref 84), some (.int v1), some (.int r3), z3], [.long ((M5.1 84 44) - r6).toInt64, .ref 84], M7)) (by decide +kernel) (hO := mm_own_260) rfl ?_
        exact (ms_260_j106 hd h hA : mp_260_106 L xs (d + 1) v1 r3 ((M5.1 84 44) - r6).toInt64 M7 o) z3
  · replace h := mm_iq hc h
    cases h
    exact (show mp_260_159 L xs (d + 1) M o from hA) (some (.int v1)) z2 z3
theorem ms_260_L25 {L : Nat} {xs : Nat → Int32} {d : Nat} (hd : 5 ≤ d) {v1 : Int32} {β : Type} {K : β → mm_M → mm_E → Prop} {F : (Unit) → mm_M → mm_O β} {M : mm_M} {q : (β ⊕ Nat) × mm_M} {o : mm_E} (h : mm_B (mf_260_L25 v1 M) F = some q) (hA : mm_A K q o) (hx : ∀ (r : (Unit)) (M2 : mm_M), F r M2 = some q → (fun r M o => mp_260_159 L xs (d) M o) r M2 o) : mp_260_25 L xs d v1 M o := mm_R_loop (s := v1) (M := M) (P := (fun s M o => mp_260_25 L xs (d) s M o)) (X := (fun r M o => mp_260_159 L xs (d) M o)) h hA (fun s M q hq hA => ms_260_b25 hd hq hA) hx
noncomputable def mf_260_j159 (M : mm_M) : mm_O Unit := mm_B (mf_253 (256 : Int32) M) (fun _ M1 => mm_B (mf_248 M1) (fun _ M2 => some (.inl (), M2)))
set_option maxRecDepth 8000 in
set_option maxHeartbeats 4000000 in
theorem ms_260_j159 {L : Nat} {xs : Nat → Int32} {d : Nat} (hd : 5 ≤ d) {M : mm_M} {q : (Unit ⊕ Nat) × mm_M} {o : mm_E} (h : mf_260_j159 M = some q) (hA : mm_A (mm_Kr mm_wv) q o) : mp_260_159 L xs d M o := by
  unfold mf_260_j159 at h
  obtain ⟨d, rfl⟩ := mm_d1 (n := 4) hd
  intro z1 z2 z3
  show mm_Runs L xs (d + 1) 260 (159, [some (.ref 84), z1, z2, z3], [], M) o
  refine mm_Runs.seq (l := [(159, .aload_n 0, 1), (160, .sipush 256, 3)]) (S2 := (163, [some (.ref 84), z1, z2, z3], [.int (256 : Int32), .ref 84], M)) (by decide +kernel) (hO := mm_own_260) rfl ?_
  refine mm_R_call (v := mm_wv) h hA (k2 := 253) (as := [.ref 84, .int (256 : Int32)]) (r := []) rfl (fun _ => rfl) (fun q hq o ho => ms_253 (by omega) hq ho) (fun _ M1 h => ?_)
  show mm_Runs L xs (d + 1) 260 (166, [some (.ref 84), z1, z2, z3], [], M1) o
  refine mm_Runs.seq (l := [(166, .aload_n 0, 1)]) (S2 := (167, [some (.ref 84), z1, z2, z3], [.ref 84], M1)) (by decide +kernel) (hO := mm_own_260) rfl ?_
  refine mm_R_call (v := mm_wv) h hA (k2 := 248) (as := [.ref 84]) (r := []) rfl (fun _ => rfl) (fun q hq o ho => ms_248 (by omega) hq ho) (fun _ M2 h => ?_)
  show mm_Runs L xs (d + 1) 260 (170, [some (.ref 84), z1, z2, z3], [], M2) o
  cases h
  exact mm_R_retv rfl rfl hA
noncomputable def mf_260 (M : mm_M) : mm_O Unit := mm_B (mf_205 (mm_pi M 84 13 (0 : Int32))) (fun _ M1 => mm_B (mf_249 (1 : Int64) (1 : Int32) (0 : Int32) M1) (fun _ M2 => mm_B (mf_249 (1 : Int64) (2 : Int32) (0 : Int32) M2) (fun _ M3 => mm_B (mf_260_L25 (0 : Int32) M3) (fun r5 M4 => mf_260_j159 M4))))
set_option maxRecDepth 8000 in
set_option maxHeartbeats 4000000 in
theorem ms_260 {L : Nat} {xs : Nat → Int32} {d : Nat} (hd : 5 ≤ d) {M : mm_M} {q : (Unit ⊕ Nat) × mm_M} {o : mm_E} (h : mf_260 M = some q) (hA : mm_A (mm_Kr mm_wv) q o) : mm_Runs L xs d 260 (0, mm_ent (mm_ml 260) [.ref 84], [], M) o := by
  unfold mf_260 at h
  obtain ⟨d, rfl⟩ := mm_d1 (n := 4) hd
  show mm_Runs L xs (d + 1) 260 (0, [some (.ref 84), none, none, none], [], M) o
  refine mm_Runs.seq (l := [(0, .aload_n 0, 1), (1, .iconst 0, 1), (2, .putfield 178, 3), (5, .aload_n 0, 1)]) (S2 := (6, [some (.ref 84), none, none, none], [.ref 84], (mm_pi M 84 13 (0 : Int32)))) (by decide +kernel) (hO := mm_own_260) rfl ?_
  refine mm_R_call (v := mm_wv) h hA (k2 := 205) (as := [.ref 84]) (r := []) rfl (fun _ => rfl) (fun q hq o ho => ms_205 (by omega) hq ho) (fun _ M1 h => ?_)
  show mm_Runs L xs (d + 1) 260 (9, [some (.ref 84), none, none, none], [], M1) o
  refine mm_Runs.seq (l := [(9, .aload_n 0, 1), (10, .lconst 1, 1), (11, .iconst 1, 1), (12, .iconst 0, 1)]) (S2 := (13, [some (.ref 84), none, none, none], [.int (0 : Int32), .int (1 : Int32), .long (1 : Int64), .ref 84], M1)) (by decide +kernel) (hO := mm_own_260) rfl ?_
  refine mm_R_call (v := mm_wv) h hA (k2 := 249) (as := [.ref 84, .long (1 : Int64), .int (1 : Int32), .int (0 : Int32)]) (r := []) rfl (fun _ => rfl) (fun q hq o ho => ms_249 (by omega) hq ho) (fun _ M2 h => ?_)
  show mm_Runs L xs (d + 1) 260 (16, [some (.ref 84), none, none, none], [], M2) o
  refine mm_Runs.seq (l := [(16, .aload_n 0, 1), (17, .lconst 1, 1), (18, .iconst 2, 1), (19, .iconst 0, 1)]) (S2 := (20, [some (.ref 84), none, none, none], [.int (0 : Int32), .int (2 : Int32), .long (1 : Int64), .ref 84], M2)) (by decide +kernel) (hO := mm_own_260) rfl ?_
  refine mm_R_call (v := mm_wv) h hA (k2 := 249) (as := [.ref 84, .long (1 : Int64), .int (2 : Int32), .int (0 : Int32)]) (r := []) rfl (fun _ => rfl) (fun q hq o ho => ms_249 (by omega) hq ho) (fun _ M3 h => ?_)
  show mm_Runs L xs (d + 1) 260 (23, [some (.ref 84), none, none, none], [], M3) o
  refine mm_Runs.seq (l := [(23, .iconst 0, 1), (24, .istore_n 1, 1)]) (S2 := (25, [some (.ref 84), some (.int (0 : Int32)), none, none], [], M3)) (by decide +kernel) (hO := mm_own_260) rfl ?_
  have hp : mp_260_25 L xs (d + 1) (0 : Int32) M3 o := by
    refine ms_260_L25 hd h hA (fun r5 M4 h => ?_)
    intro y6 y7 y8
    show mm_Runs L xs (d + 1) 260 (159, [some (.ref 84), y6, y7, y8], [], M4) o
    exact (ms_260_j159 hd h hA : mp_260_159 L xs (d + 1) M4 o) y6 y7 y8
  exact hp none none
-- 246: PlainPacksModel.writeLow(JI)V (depth 1)
theorem mm_own_246 : mm_own 246 = 12 := rfl
def mp_246_3 (L : Nat) (xs : Nat → Int32) (d : Nat) (v1 : Int64) (v3 : Int32) (v4 : Int32) (M : mm_M) (o : mm_E) : Prop := ∀ z2 : Option Value, mm_Runs L xs d 246 (3, [some (.ref 84), some (.long v1), z2, some (.int v3), some (.int v4)], [], M) o
def mp_246_31 (L : Nat) (xs : Nat → Int32) (d : Nat) (M : mm_M) (o : mm_E) : Prop := ∀ z0 z1 z2 z3 z4 : Option Value, mm_Runs L xs d 246 (31, [z0, z1, z2, z3, z4], [], M) o
noncomputable def mf_246_b3 (v1 : Int64) (v3 : Int32) (v4 : Int32) (M : mm_M) : mm_O ((Int32) ⊕ (Unit)) := if v4 < v3 then (mm_B (mf_245 ((mm_lush v1 ((8 : Int32) * v4)).toInt32 &&& (255 : Int32)) M) (fun _ M1 => some (.inl (.inl (v4 + (1 : Int32))), M1))) else (some (.inl (.inr ()), M))
noncomputable def mf_246_L3 (v1 : Int64) (v3 : Int32) (s : Int32) (M : mm_M) : mm_O (Unit) := mm_L (fun s M => mf_246_b3 v1 v3 s M) s M
set_option maxRecDepth 8000 in
set_option maxHeartbeats 4000000 in
theorem ms_246_b3 {L : Nat} {xs : Nat → Int32} {d : Nat} (hd : 1 ≤ d) {v1 : Int64} {v3 : Int32} {v4 : Int32} {M : mm_M} {q : (((Int32) ⊕ (Unit)) ⊕ Nat) × mm_M} {o : mm_E} (h : mf_246_b3 v1 v3 v4 M = some q) (hA : mm_A (mm_K2 (fun s M o => mp_246_3 L xs (d) v1 v3 s M o) (fun r M o => mp_246_31 L xs (d) M o)) q o) : mp_246_3 L xs d v1 v3 v4 M o := by
  unfold mf_246_b3 at h
  obtain ⟨d, rfl⟩ := mm_d1 (n := 0) hd
  intro z2
  show mm_Runs L xs (d + 1) 246 (3, [some (.ref 84), some (.long v1), z2, some (.int v3), some (.int v4)], [], M) o
  refine mm_Runs.seq (l := [(3, .iload 4, 2), (5, .iload_n 3, 1)]) (S2 := (6, [some (.ref 84), some (.long v1), z2, some (.int v3), some (.int v4)], [.int v3, .int v4], M)) (by decide +kernel) (hO := mm_own_246) rfl ?_
  refine mm_R_ige (t := 31) rfl rfl rfl (fun hc => ?_) (fun hc => ?_)
  · replace h := mm_ip hc h
    refine mm_Runs.seq (l := [(9, .aload_n 0, 1), (10, .lload_n 1, 1), (11, .bipush 8, 2), (13, .iload 4, 2), (15, .imul, 1), (16, .lushr, 1), (17, .l2i, 1), (18, .sipush 255, 3), (21, .iand, 1)]) (S2 := (22, [some (.ref 84), some (.long v1), z2, some (.int v3), some (.int v4)], [.int ((mm_lush v1 ((8 : Int32) * v4)).toInt32 &&& (255 : Int32)), .ref 84], M)) (by decide +kernel) (hO := mm_own_246) rfl ?_
    refine mm_R_call (v := mm_wv) h hA (k2 := 245) (as := [.ref 84, .int ((mm_lush v1 ((8 : Int32) * v4)).toInt32 &&& (255 : Int32))]) (r := []) rfl (fun _ => rfl) (fun q hq o ho => ms_245 (by omega) hq ho) (fun _ M1 h => ?_)
    show mm_Runs L xs (d + 1) 246 (25, [some (.ref 84), some (.long v1), z2, some (.int v3), some (.int v4)], [], M1) o
    refine mm_Runs.seq (l := [(25, .iinc 4 1, 3), (28, .goto (-25), 3)]) (S2 := (3, [some (.ref 84), some (.long v1), z2, some (.int v3), some (.int (v4 + (1 : Int32)))], [], M1)) (by decide +kernel) (hO := mm_own_246) rfl ?_
    cases h
    exact (show mp_246_3 L xs (d + 1) v1 v3 (v4 + (1 : Int32)) M1 o from hA) z2
  · replace h := mm_iq hc h
    cases h
    exact (show mp_246_31 L xs (d + 1) M o from hA) (some (.ref 84)) (some (.long v1)) z2 (some (.int v3)) (some (.int v4))
theorem ms_246_L3 {L : Nat} {xs : Nat → Int32} {d : Nat} (hd : 1 ≤ d) {v1 : Int64} {v3 : Int32} {v4 : Int32} {β : Type} {K : β → mm_M → mm_E → Prop} {F : (Unit) → mm_M → mm_O β} {M : mm_M} {q : (β ⊕ Nat) × mm_M} {o : mm_E} (h : mm_B (mf_246_L3 v1 v3 v4 M) F = some q) (hA : mm_A K q o) (hx : ∀ (r : (Unit)) (M2 : mm_M), F r M2 = some q → (fun r M o => mp_246_31 L xs (d) M o) r M2 o) : mp_246_3 L xs d v1 v3 v4 M o := mm_R_loop (s := v4) (M := M) (P := (fun s M o => mp_246_3 L xs (d) v1 v3 s M o)) (X := (fun r M o => mp_246_31 L xs (d) M o)) h hA (fun s M q hq hA => ms_246_b3 hd hq hA) hx
noncomputable def mf_246 (v1 : Int64) (v3 : Int32) (M : mm_M) : mm_O Unit := mm_B (mf_246_L3 v1 v3 (0 : Int32) M) (fun r2 M1 => some (.inl (), M1))
set_option maxRecDepth 8000 in
set_option maxHeartbeats 4000000 in
theorem ms_246 {L : Nat} {xs : Nat → Int32} {d : Nat} (hd : 1 ≤ d) {v1 : Int64} {v3 : Int32} {M : mm_M} {q : (Unit ⊕ Nat) × mm_M} {o : mm_E} (h : mf_246 v1 v3 M = some q) (hA : mm_A (mm_Kr mm_wv) q o) : mm_Runs L xs d 246 (0, mm_ent (mm_ml 246) [.ref 84, .long v1, .int v3], [], M) o := by
  unfold mf_246 at h
  obtain ⟨d, rfl⟩ := mm_d1 (n := 0) hd
  show mm_Runs L xs (d + 1) 246 (0, [some (.ref 84), some (.long v1), none, some (.int v3), none], [], M) o
  refine mm_Runs.seq (l := [(0, .iconst 0, 1), (1, .istore 4, 2)]) (S2 := (3, [some (.ref 84), some (.long v1), none, some (.int v3), some (.int (0 : Int32))], [], M)) (by decide +kernel) (hO := mm_own_246) rfl ?_
  have hp : mp_246_3 L xs (d + 1) v1 v3 (0 : Int32) M o := by
    refine ms_246_L3 hd h hA (fun r2 M1 h => ?_)
    intro y3 y4 y5 y6 y7
    show mm_Runs L xs (d + 1) 246 (31, [y3, y4, y5, y6, y7], [], M1) o
    cases h
    exact mm_R_retv rfl rfl hA
  exact hp none
-- 285: PlainPacksModel.packBlocks(I)V (depth 6)
theorem mm_own_285 : mm_own 285 = 12 := rfl
def mp_285_16 (L : Nat) (xs : Nat → Int32) (d : Nat) (v1 : Int32) (M : mm_M) (o : mm_E) : Prop := ∀ z2 z3 : Option Value, mm_Runs L xs d 285 (16, [some (.ref 84), some (.int v1), z2, z3], [], M) o
def mp_285_42 (L : Nat) (xs : Nat → Int32) (d : Nat) (v1 : Int32) (v2 : Int32) (M : mm_M) (o : mm_E) : Prop := ∀ z3 : Option Value, mm_Runs L xs d 285 (42, [some (.ref 84), some (.int v1), some (.int v2), z3], [], M) o
def mp_285_59 (L : Nat) (xs : Nat → Int32) (d : Nat) (v1 : Int32) (M : mm_M) (o : mm_E) : Prop := ∀ z2 z3 : Option Value, mm_Runs L xs d 285 (59, [some (.ref 84), some (.int v1), z2, z3], [], M) o
noncomputable def mf_285_b42 (v1 : Int32) (v2 : Int32) (M : mm_M) : mm_O ((Int32) ⊕ (Unit)) := if v2 < (6 : Int32) then (mm_B (mf_245 (0 : Int32) M) (fun _ M1 => some (.inl (.inl (v2 + (1 : Int32))), M1))) else (some (.inl (.inr ()), M))
noncomputable def mf_285_L42 (v1 : Int32) (s : Int32) (M : mm_M) : mm_O (Unit) := mm_L (fun s M => mf_285_b42 v1 s M) s M
set_option maxRecDepth 8000 in
set_option maxHeartbeats 4000000 in
theorem ms_285_b42 {L : Nat} {xs : Nat → Int32} {d : Nat} (hd : 6 ≤ d) {v1 : Int32} {v2 : Int32} {M : mm_M} {q : (((Int32) ⊕ (Unit)) ⊕ Nat) × mm_M} {o : mm_E} (h : mf_285_b42 v1 v2 M = some q) (hA : mm_A (mm_K2 (fun s M o => mp_285_42 L xs (d) v1 s M o) (fun r M o => mp_285_59 L xs (d) v1 M o)) q o) : mp_285_42 L xs d v1 v2 M o := by
  unfold mf_285_b42 at h
  obtain ⟨d, rfl⟩ := mm_d1 (n := 5) hd
  intro z3
  show mm_Runs L xs (d + 1) 285 (42, [some (.ref 84), some (.int v1), some (.int v2), z3], [], M) o
  refine mm_Runs.seq (l := [(42, .iload_n 2, 1), (43, .bipush 6, 2)]) (S2 := (45, [some (.ref 84), some (.int v1), some (.int v2), z3], [.int (6 : Int32), .int v2], M)) (by decide +kernel) (hO := mm_own_285) rfl ?_
  refine mm_R_ige (t := 59) rfl rfl rfl (fun hc => ?_) (fun hc => ?_)
  · replace h := mm_ip hc h
    refine mm_Runs.seq (l := [(48, .aload_n 0, 1), (49, .iconst 0, 1)]) (S2 := (50, [some (.ref 84), some (.int v1), some (.int v2), z3], [.int (0 : Int32), .ref 84], M)) (by decide +kernel) (hO := mm_own_285) rfl ?_
    refine mm_R_call (v := mm_wv) h hA (k2 := 245) (as := [.ref 84, .int (0 : Int32)]) (r := []) rfl (fun _ => rfl) (fun q hq o ho => ms_245 (by omega) hq ho) (fun _ M1 h => ?_)
    show mm_Runs L xs (d + 1) 285 (53, [some (.ref 84), some (.int v1), some (.int v2), z3], [], M1) o
    refine mm_Runs.seq (l := [(53, .iinc 2 1, 3), (56, .goto (-14), 3)]) (S2 := (42, [some (.ref 84), some (.int v1), some (.int (v2 + (1 : Int32))), z3], [], M1)) (by decide +kernel) (hO := mm_own_285) rfl ?_
    cases h
    exact (show mp_285_42 L xs (d + 1) v1 (v2 + (1 : Int32)) M1 o from hA) z3
  · replace h := mm_iq hc h
    cases h
    exact (show mp_285_59 L xs (d + 1) v1 M o from hA) (some (.int v2)) z3
theorem ms_285_L42 {L : Nat} {xs : Nat → Int32} {d : Nat} (hd : 6 ≤ d) {v1 : Int32} {v2 : Int32} {β : Type} {K : β → mm_M → mm_E → Prop} {F : (Unit) → mm_M → mm_O β} {M : mm_M} {q : (β ⊕ Nat) × mm_M} {o : mm_E} (h : mm_B (mf_285_L42 v1 v2 M) F = some q) (hA : mm_A K q o) (hx : ∀ (r : (Unit)) (M2 : mm_M), F r M2 = some q → (fun r M o => mp_285_59 L xs (d) v1 M o) r M2 o) : mp_285_42 L xs d v1 v2 M o := mm_R_loop (s := v2) (M := M) (P := (fun s M o => mp_285_42 L xs (d) v1 s M o)) (X := (fun r M o => mp_285_59 L xs (d) v1 M o)) h hA (fun s M q hq hA => ms_285_b42 hd hq hA) hx
def mp_285_66 (L : Nat) (xs : Nat → Int32) (d : Nat) (v1 : Int32) (M : mm_M) (o : mm_E) : Prop := ∀ z2 z3 : Option Value, mm_Runs L xs d 285 (66, [some (.ref 84), some (.int v1), z2, z3], [], M) o
def mp_285_91 (L : Nat) (xs : Nat → Int32) (d : Nat) (v1 : Int32) (v2 : Int32) (v3 : Int32) (M : mm_M) (o : mm_E) : Prop := mm_Runs L xs d 285 (91, [some (.ref 84), some (.int v1), some (.int v2), some (.int v3)], [], M) o
def mp_285_112 (L : Nat) (xs : Nat → Int32) (d : Nat) (v1 : Int32) (M : mm_M) (o : mm_E) : Prop := ∀ z2 z3 : Option Value, mm_Runs L xs d 285 (112, [some (.ref 84), some (.int v1), z2, z3], [], M) o
noncomputable def mf_285_b91 (v1 : Int32) (v2 : Int32) (v3 : Int32) (M : mm_M) : mm_O ((Int32) ⊕ (Unit)) := if v3 < 0 then (some (.inl (.inr ()), M)) else (mm_B (mf_245 ((mm_ush v2 v3) &&& (255 : Int32)) M) (fun _ M1 => some (.inl (.inl (v3 + (-8 : Int32))), M1)))
noncomputable def mf_285_L91 (v1 : Int32) (v2 : Int32) (s : Int32) (M : mm_M) : mm_O (Unit) := mm_L (fun s M => mf_285_b91 v1 v2 s M) s M
set_option maxRecDepth 8000 in
set_option maxHeartbeats 4000000 in
theorem ms_285_b91 {L : Nat} {xs : Nat → Int32} {d : Nat} (hd : 6 ≤ d) {v1 : Int32} {v2 : Int32} {v3 : Int32} {M : mm_M} {q : (((Int32) ⊕ (Unit)) ⊕ Nat) × mm_M} {o : mm_E} (h : mf_285_b91 v1 v2 v3 M = some q) (hA : mm_A (mm_K2 (fun s M o => mp_285_91 L xs (d) v1 v2 s M o) (fun r M o => mp_285_112 L xs (d) v1 M o)) q o) : mp_285_91 L xs d v1 v2 v3 M o := by
  unfold mf_285_b91 at h
  obtain ⟨d, rfl⟩ := mm_d1 (n := 5) hd
  show mm_Runs L xs (d + 1) 285 (91, [some (.ref 84), some (.int v1), some (.int v2), some (.int v3)], [], M) o
  refine mm_Runs.seq (l := [(91, .iload_n 3, 1)]) (S2 := (92, [some (.ref 84), some (.int v1), some (.int v2), some (.int v3)], [.int v3], M)) (by decide +kernel) (hO := mm_own_285) rfl ?_
  refine mm_R_zlt (t := 112) rfl rfl rfl (fun hc => ?_) (fun hc => ?_)
  · replace h := mm_ip hc h
    cases h
    exact (show mp_285_112 L xs (d + 1) v1 M o from hA) (some (.int v2)) (some (.int v3))
  · replace h := mm_iq hc h
    refine mm_Runs.seq (l := [(95, .aload_n 0, 1), (96, .iload_n 2, 1), (97, .iload_n 3, 1), (98, .iushr, 1), (99, .sipush 255, 3), (102, .iand, 1)]) (S2 := (103, [some (.ref 84), some (.int v1), some (.int v2), some (.int v3)], [.int ((mm_ush v2 v3) &&& (255 : Int32)), .ref 84], M)) (by decide +kernel) (hO := mm_own_285) rfl ?_
    refine mm_R_call (v := mm_wv) h hA (k2 := 245) (as := [.ref 84, .int ((mm_ush v2 v3) &&& (255 : Int32))]) (r := []) rfl (fun _ => rfl) (fun q hq o ho => ms_245 (by omega) hq ho) (fun _ M1 h => ?_)
    show mm_Runs L xs (d + 1) 285 (106, [some (.ref 84), some (.int v1), some (.int v2), some (.int v3)], [], M1) o
    refine mm_Runs.seq (l := [(106, .iinc 3 (-8), 3), (109, .goto (-18), 3)]) (S2 := (91, [some (.ref 84), some (.int v1), some (.int v2), some (.int (v3 + (-8 : Int32)))], [], M1)) (by decide +kernel) (hO := mm_own_285) rfl ?_
    cases h
    exact (show mp_285_91 L xs (d + 1) v1 v2 (v3 + (-8 : Int32)) M1 o from hA)
theorem ms_285_L91 {L : Nat} {xs : Nat → Int32} {d : Nat} (hd : 6 ≤ d) {v1 : Int32} {v2 : Int32} {v3 : Int32} {β : Type} {K : β → mm_M → mm_E → Prop} {F : (Unit) → mm_M → mm_O β} {M : mm_M} {q : (β ⊕ Nat) × mm_M} {o : mm_E} (h : mm_B (mf_285_L91 v1 v2 v3 M) F = some q) (hA : mm_A K q o) (hx : ∀ (r : (Unit)) (M2 : mm_M), F r M2 = some q → (fun r M o => mp_285_112 L xs (d) v1 M o) r M2 o) : mp_285_91 L xs d v1 v2 v3 M o := mm_R_loop (s := v3) (M := M) (P := (fun s M o => mp_285_91 L xs (d) v1 v2 s M o)) (X := (fun r M o => mp_285_112 L xs (d) v1 M o)) h hA (fun s M q hq hA => ms_285_b91 hd hq hA) hx
noncomputable def mf_285_j112 (v1 : Int32) (M : mm_M) : mm_O Unit := if v1 = (3 : Int32) then (mm_B (mf_182 85 10000 (0 : Int32) (M.1 84 2) M) (fun r1 M2 => mm_B (mf_246 r1.toInt64 (4 : Int32) M2) (fun _ M3 => mm_B (mf_246 (M3.1 84 2).toInt64 (4 : Int32) M3) (fun _ M4 => some (.inl (), M4))))) else (some (.inl (), M))
set_option maxRecDepth 8000 in
set_option maxHeartbeats 4000000 in
theorem ms_285_j112 {L : Nat} {xs : Nat → Int32} {d : Nat} (hd : 6 ≤ d) {v1 : Int32} {M : mm_M} {q : (Unit ⊕ Nat) × mm_M} {o : mm_E} (h : mf_285_j112 v1 M = some q) (hA : mm_A (mm_Kr mm_wv) q o) : mp_285_112 L xs d v1 M o := by
  unfold mf_285_j112 at h
  obtain ⟨d, rfl⟩ := mm_d1 (n := 5) hd
  intro z2 z3
  show mm_Runs L xs (d + 1) 285 (112, [some (.ref 84), some (.int v1), z2, z3], [], M) o
  refine mm_Runs.seq (l := [(112, .iload_n 1, 1), (113, .iconst 3, 1)]) (S2 := (114, [some (.ref 84), some (.int v1), z2, z3], [.int (3 : Int32), .int v1], M)) (by decide +kernel) (hO := mm_own_285) rfl ?_
  refine mm_R_ine (t := 145) rfl rfl rfl (fun hc => ?_) (fun hc => ?_)
  · replace h := mm_ip hc h
    refine mm_Runs.seq (l := [(117, .aload_n 0, 1), (118, .aload_n 0, 1), (119, .getfield 7, 3), (122, .iconst 0, 1), (123, .aload_n 0, 1), (124, .getfield 91, 3)]) (S2 := (127, [some (.ref 84), some (.int v1), z2, z3], [.int (M.1 84 2), .int (0 : Int32), .ref 85, .ref 84], M)) (by decide +kernel) (hO := mm_own_285) rfl ?_
    refine mm_R_call (v := mm_wi) h hA (k2 := 182) (as := [.ref 85, .int (0 : Int32), .int (M.1 84 2)]) (r := [.ref 84]) rfl (fun _ => rfl) (fun q hq o ho => ms_182 rfl (by omega) hq ho) (fun r1 M2 h => ?_)
    show mm_Runs L xs (d + 1) 285 (130, [some (.ref 84), some (.int v1), z2, z3], [.int r1, .ref 84], M2) o
    refine mm_Runs.seq (l := [(130, .i2l, 1), (131, .iconst 4, 1)]) (S2 := (132, [some (.ref 84), some (.int v1), z2, z3], [.int (4 : Int32), .long r1.toInt64, .ref 84], M2)) (by decide +kernel) (hO := mm_own_285) rfl ?_
    refine mm_R_call (v := mm_wv) h hA (k2 := 246) (as := [.ref 84, .long r1.toInt64, .int (4 : Int32)]) (r := []) rfl (fun _ => rfl) (fun q hq o ho => ms_246 (by omega) hq ho) (fun _ M3 h => ?_)
    show mm_Runs L xs (d + 1) 285 (135, [some (.ref 84), some (.int v1), z2, z3], [], M3) o
    refine mm_Runs.seq (l := [(135, .aload_n 0, 1), (136, .aload_n 0, 1), (137, .getfield 91, 3), (140, .i2l, 1), (141, .iconst 4, 1)]) (S2 := (142, [some (.ref 84), some (.int v1), z2, z3], [.int (4 : Int32), .long (M3.1 84 2).toInt64, .ref 84], M3)) (by decide +kernel) (hO := mm_own_285) rfl ?_
    refine mm_R_call (v := mm_wv) h hA (k2 := 246) (as := [.ref 84, .long (M3.1 84 2).toInt64, .int (4 : Int32)]) (r := []) rfl (fun _ => rfl) (fun q hq o ho => ms_246 (by omega) hq ho) (fun _ M4 h => ?_)
    show mm_Runs L xs (d + 1) 285 (145, [some (.ref 84), some (.int v1), z2, z3], [], M4) o
    cases h
    exact mm_R_retv rfl rfl hA
  · replace h := mm_iq hc h
    cases h
    exact mm_R_retv rfl rfl hA
noncomputable def mf_285_j66 (v1 : Int32) (M : mm_M) : mm_O Unit := mm_B (mf_260 M) (fun _ M1 => if v1 = (2 : Int32) then (mm_B (mf_184 85 10000 (0 : Int32) (M1.1 84 2) M1) (fun r2 M3 => mm_B (mf_285_L91 v1 r2 (24 : Int32) M3) (fun r5 M4 => mf_285_j112 v1 M4))) else (mf_285_j112 v1 M1))
set_option maxRecDepth 8000 in
set_option maxHeartbeats 4000000 in
theorem ms_285_j66 {L : Nat} {xs : Nat → Int32} {d : Nat} (hd : 6 ≤ d) {v1 : Int32} {M : mm_M} {q : (Unit ⊕ Nat) × mm_M} {o : mm_E} (h : mf_285_j66 v1 M = some q) (hA : mm_A (mm_Kr mm_wv) q o) : mp_285_66 L xs d v1 M o := by
  unfold mf_285_j66 at h
  obtain ⟨d, rfl⟩ := mm_d1 (n := 5) hd
  intro z2 z3
  show mm_Runs L xs (d + 1) 285 (66, [some (.ref 84), some (.int v1), z2, z3], [], M) o
  refine mm_Runs.seq (l := [(66, .aload_n 0, 1)]) (S2 := (67, [some (.ref 84), some (.int v1), z2, z3], [.ref 84], M)) (by decide +kernel) (hO := mm_own_285) rfl ?_
  refine mm_R_call (v := mm_wv) h hA (k2 := 260) (as := [.ref 84]) (r := []) rfl (fun _ => rfl) (fun q hq o ho => ms_260 (by omega) hq ho) (fun _ M1 h => ?_)
  show mm_Runs L xs (d + 1) 285 (70, [some (.ref 84), some (.int v1), z2, z3], [], M1) o
  refine mm_Runs.seq (l := [(70, .iload_n 1, 1), (71, .iconst 2, 1)]) (S2 := (72, [some (.ref 84), some (.int v1), z2, z3], [.int (2 : Int32), .int v1], M1)) (by decide +kernel) (hO := mm_own_285) rfl ?_
  refine mm_R_ine (t := 112) rfl rfl rfl (fun hc => ?_) (fun hc => ?_)
  · replace h := mm_ip hc h
    refine mm_Runs.seq (l := [(75, .aload_n 0, 1), (76, .getfield 7, 3), (79, .iconst 0, 1), (80, .aload_n 0, 1), (81, .getfield 91, 3)]) (S2 := (84, [some (.ref 84), some (.int v1), z2, z3], [.int (M1.1 84 2), .int (0 : Int32), .ref 85], M1)) (by decide +kernel) (hO := mm_own_285) rfl ?_
    refine mm_R_call (v := mm_wi) h hA (k2 := 184) (as := [.ref 85, .int (0 : Int32), .int (M1.1 84 2)]) (r := []) rfl (fun _ => rfl) (fun q hq o ho => ms_184 rfl (by omega) hq ho) (fun r2 M3 h => ?_)
    show mm_Runs L xs (d + 1) 285 (87, [some (.ref 84), some (.int v1), z2, z3], [.int r2], M3) o
    refine mm_Runs.seq (l := [(87, .istore_n 2, 1), (88, .bipush 24, 2), (90, .istore_n 3, 1)]) (S2 := (91, [some (.ref 84), some (.int v1), some (.int r2), some (.int (24 : Int32))], [], M3)) (by decide +kernel) (hO := mm_own_285) rfl ?_
    have hp : mp_285_91 L xs (d + 1) v1 r2 (24 : Int32) M3 o := by
      refine ms_285_L91 hd h hA (fun r5 M4 h => ?_)
      intro y6 y7
      show mm_Runs L xs (d + 1) 285 (112, [some (.ref 84), some (.int v1), y6, y7], [], M4) o
      exact (ms_285_j112 hd h hA : mp_285_112 L xs (d + 1) v1 M4 o) y6 y7
    exact hp
  · replace h := mm_iq hc h
    exact (ms_285_j112 hd h hA : mp_285_112 L xs (d + 1) v1 M1 o) z2 z3
noncomputable def mf_285_j59 (v1 : Int32) (M : mm_M) : mm_O Unit := mm_B (mf_245 (255 : Int32) M) (fun _ M1 => mf_285_j66 v1 M1)
set_option maxRecDepth 8000 in
set_option maxHeartbeats 4000000 in
theorem ms_285_j59 {L : Nat} {xs : Nat → Int32} {d : Nat} (hd : 6 ≤ d) {v1 : Int32} {M : mm_M} {q : (Unit ⊕ Nat) × mm_M} {o : mm_E} (h : mf_285_j59 v1 M = some q) (hA : mm_A (mm_Kr mm_wv) q o) : mp_285_59 L xs d v1 M o := by
  unfold mf_285_j59 at h
  obtain ⟨d, rfl⟩ := mm_d1 (n := 5) hd
  intro z2 z3
  show mm_Runs L xs (d + 1) 285 (59, [some (.ref 84), some (.int v1), z2, z3], [], M) o
  refine mm_Runs.seq (l := [(59, .aload_n 0, 1), (60, .sipush 255, 3)]) (S2 := (63, [some (.ref 84), some (.int v1), z2, z3], [.int (255 : Int32), .ref 84], M)) (by decide +kernel) (hO := mm_own_285) rfl ?_
  refine mm_R_call (v := mm_wv) h hA (k2 := 245) (as := [.ref 84, .int (255 : Int32)]) (r := []) rfl (fun _ => rfl) (fun q hq o ho => ms_245 (by omega) hq ho) (fun _ M1 h => ?_)
  show mm_Runs L xs (d + 1) 285 (66, [some (.ref 84), some (.int v1), z2, z3], [], M1) o
  exact (ms_285_j66 hd h hA : mp_285_66 L xs (d + 1) v1 M1 o) z2 z3
noncomputable def mf_285_j16 (v1 : Int32) (M : mm_M) : mm_O Unit := if v1 = (3 : Int32) then (mm_B (mf_245 (31 : Int32) M) (fun _ M1 => mm_B (mf_245 (139 : Int32) M1) (fun _ M2 => mm_B (mf_245 (8 : Int32) M2) (fun _ M3 => mm_B (mf_285_L42 v1 (0 : Int32) M3) (fun r5 M4 => mf_285_j59 v1 M4))))) else (mf_285_j66 v1 M)
set_option maxRecDepth 8000 in
set_option maxHeartbeats 4000000 in
theorem ms_285_j16 {L : Nat} {xs : Nat → Int32} {d : Nat} (hd : 6 ≤ d) {v1 : Int32} {M : mm_M} {q : (Unit ⊕ Nat) × mm_M} {o : mm_E} (h : mf_285_j16 v1 M = some q) (hA : mm_A (mm_Kr mm_wv) q o) : mp_285_16 L xs d v1 M o := by
  unfold mf_285_j16 at h
  obtain ⟨d, rfl⟩ := mm_d1 (n := 5) hd
  intro z2 z3
  show mm_Runs L xs (d + 1) 285 (16, [some (.ref 84), some (.int v1), z2, z3], [], M) o
  refine mm_Runs.seq (l := [(16, .iload_n 1, 1), (17, .iconst 3, 1)]) (S2 := (18, [some (.ref 84), some (.int v1), z2, z3], [.int (3 : Int32), .int v1], M)) (by decide +kernel) (hO := mm_own_285) rfl ?_
  refine mm_R_ine (t := 66) rfl rfl rfl (fun hc => ?_) (fun hc => ?_)
  · replace h := mm_ip hc h
    refine mm_Runs.seq (l := [(21, .aload_n 0, 1), (22, .bipush 31, 2)]) (S2 := (24, [some (.ref 84), some (.int v1), z2, z3], [.int (31 : Int32), .ref 84], M)) (by decide +kernel) (hO := mm_own_285) rfl ?_
    refine mm_R_call (v := mm_wv) h hA (k2 := 245) (as := [.ref 84, .int (31 : Int32)]) (r := []) rfl (fun _ => rfl) (fun q hq o ho => ms_245 (by omega) hq ho) (fun _ M1 h => ?_)
    show mm_Runs L xs (d + 1) 285 (27, [some (.ref 84), some (.int v1), z2, z3], [], M1) o
    refine mm_Runs.seq (l := [(27, .aload_n 0, 1), (28, .sipush 139, 3)]) (S2 := (31, [some (.ref 84), some (.int v1), z2, z3], [.int (139 : Int32), .ref 84], M1)) (by decide +kernel) (hO := mm_own_285) rfl ?_
    refine mm_R_call (v := mm_wv) h hA (k2 := 245) (as := [.ref 84, .int (139 : Int32)]) (r := []) rfl (fun _ => rfl) (fun q hq o ho => ms_245 (by omega) hq ho) (fun _ M2 h => ?_)
    show mm_Runs L xs (d + 1) 285 (34, [some (.ref 84), some (.int v1), z2, z3], [], M2) o
    refine mm_Runs.seq (l := [(34, .aload_n 0, 1), (35, .bipush 8, 2)]) (S2 := (37, [some (.ref 84), some (.int v1), z2, z3], [.int (8 : Int32), .ref 84], M2)) (by decide +kernel) (hO := mm_own_285) rfl ?_
    refine mm_R_call (v := mm_wv) h hA (k2 := 245) (as := [.ref 84, .int (8 : Int32)]) (r := []) rfl (fun _ => rfl) (fun q hq o ho => ms_245 (by omega) hq ho) (fun _ M3 h => ?_)
    show mm_Runs L xs (d + 1) 285 (40, [some (.ref 84), some (.int v1), z2, z3], [], M3) o
    refine mm_Runs.seq (l := [(40, .iconst 0, 1), (41, .istore_n 2, 1)]) (S2 := (42, [some (.ref 84), some (.int v1), some (.int (0 : Int32)), z3], [], M3)) (by decide +kernel) (hO := mm_own_285) rfl ?_
    have hp : mp_285_42 L xs (d + 1) v1 (0 : Int32) M3 o := by
      refine ms_285_L42 hd h hA (fun r5 M4 h => ?_)
      intro y6 y7
      show mm_Runs L xs (d + 1) 285 (59, [some (.ref 84), some (.int v1), y6, y7], [], M4) o
      exact (ms_285_j59 hd h hA : mp_285_59 L xs (d + 1) v1 M4 o) y6 y7
    exact hp z3
  · replace h := mm_iq hc h
    exact (ms_285_j66 hd h hA : mp_285_66 L xs (d + 1) v1 M o) z2 z3
noncomputable def mf_285 (v1 : Int32) (M : mm_M) : mm_O Unit := if v1 = (2 : Int32) then (mm_B (mf_245 (120 : Int32) M) (fun _ M1 => mm_B (mf_245 (1 : Int32) M1) (fun _ M2 => mf_285_j16 v1 M2))) else (mf_285_j16 v1 M)
set_option maxRecDepth 8000 in
set_option maxHeartbeats 4000000 in
theorem ms_285 {L : Nat} {xs : Nat → Int32} {d : Nat} (hd : 6 ≤ d) {v1 : Int32} {M : mm_M} {q : (Unit ⊕ Nat) × mm_M} {o : mm_E} (h : mf_285 v1 M = some q) (hA : mm_A (mm_Kr mm_wv) q o) : mm_Runs L xs d 285 (0, mm_ent (mm_ml 285) [.ref 84, .int v1], [], M) o := by
  unfold mf_285 at h
  obtain ⟨d, rfl⟩ := mm_d1 (n := 5) hd
  show mm_Runs L xs (d + 1) 285 (0, [some (.ref 84), some (.int v1), none, none], [], M) o
  refine mm_Runs.seq (l := [(0, .iload_n 1, 1), (1, .iconst 2, 1)]) (S2 := (2, [some (.ref 84), some (.int v1), none, none], [.int (2 : Int32), .int v1], M)) (by decide +kernel) (hO := mm_own_285) rfl ?_
  refine mm_R_ine (t := 16) rfl rfl rfl (fun hc => ?_) (fun hc => ?_)
  · replace h := mm_ip hc h
    refine mm_Runs.seq (l := [(5, .aload_n 0, 1), (6, .bipush 120, 2)]) (S2 := (8, [some (.ref 84), some (.int v1), none, none], [.int (120 : Int32), .ref 84], M)) (by decide +kernel) (hO := mm_own_285) rfl ?_
    refine mm_R_call (v := mm_wv) h hA (k2 := 245) (as := [.ref 84, .int (120 : Int32)]) (r := []) rfl (fun _ => rfl) (fun q hq o ho => ms_245 (by omega) hq ho) (fun _ M1 h => ?_)
    show mm_Runs L xs (d + 1) 285 (11, [some (.ref 84), some (.int v1), none, none], [], M1) o
    refine mm_Runs.seq (l := [(11, .aload_n 0, 1), (12, .iconst 1, 1)]) (S2 := (13, [some (.ref 84), some (.int v1), none, none], [.int (1 : Int32), .ref 84], M1)) (by decide +kernel) (hO := mm_own_285) rfl ?_
    refine mm_R_call (v := mm_wv) h hA (k2 := 245) (as := [.ref 84, .int (1 : Int32)]) (r := []) rfl (fun _ => rfl) (fun q hq o ho => ms_245 (by omega) hq ho) (fun _ M2 h => ?_)
    show mm_Runs L xs (d + 1) 285 (16, [some (.ref 84), some (.int v1), none, none], [], M2) o
    exact (ms_285_j16 hd h hA : mp_285_16 L xs (d + 1) v1 M2 o) none none
  · replace h := mm_iq hc h
    exact (ms_285_j16 hd h hA : mp_285_16 L xs (d + 1) v1 M o) none none
-- 262: PlainPacksModel.stands(III)Z (depth 0)
theorem mm_own_262 : mm_own 262 = 12 := rfl
def mp_262_20 (L : Nat) (xs : Nat → Int32) (d : Nat) (v1 : Int32) (v2 : Int32) (v3 : Int32) (v4 : Int32) (v5 : Int32) (M : mm_M) (o : mm_E) : Prop := mm_Runs L xs d 262 (20, [some (.ref 84), some (.int v1), some (.int v2), some (.int v3), some (.int v4), some (.int v5)], [], M) o
def mp_262_65 (L : Nat) (xs : Nat → Int32) (d : Nat) (v4 : Int32) (M : mm_M) (o : mm_E) : Prop := ∀ z0 z1 z2 z3 z5 : Option Value, mm_Runs L xs d 262 (65, [z0, z1, z2, z3, some (.int v4), z5], [], M) o
noncomputable def mf_262_b20 (v1 : Int32) (v2 : Int32) (v3 : Int32) (v4 : Int32) (v5 : Int32) (M : mm_M) : mm_O ((Int32 × Int32) ⊕ (Int32)) := if v5 < v2 then (if v4 = 0 then (some (.inl (.inr v4), M)) else (if mm_in (v1 + v5) 10000 then if mm_in (v3 + v5) 10000 then if (M.1 85 (v1 + v5).toNatClampNeg) = (M.1 85 (v3 + v5).toNatClampNeg) then (some (.inl (.inl ((1 : Int32), (v5 + (1 : Int32)))), M)) else (some (.inl (.inl ((0 : Int32), (v5 + (1 : Int32)))), M)) else none else none)) else (some (.inl (.inr v4), M))
noncomputable def mf_262_L20 (v1 : Int32) (v2 : Int32) (v3 : Int32) (s : Int32 × Int32) (M : mm_M) : mm_O (Int32) := mm_L (fun s M => mf_262_b20 v1 v2 v3 s.1 s.2 M) s M
set_option maxRecDepth 8000 in
set_option maxHeartbeats 4000000 in
theorem ms_262_b20 {L : Nat} {xs : Nat → Int32} {d : Nat} (hd : 0 ≤ d) {v1 : Int32} {v2 : Int32} {v3 : Int32} {v4 : Int32} {v5 : Int32} {M : mm_M} {q : (((Int32 × Int32) ⊕ (Int32)) ⊕ Nat) × mm_M} {o : mm_E} (h : mf_262_b20 v1 v2 v3 v4 v5 M = some q) (hA : mm_A (mm_K2 (fun s M o => mp_262_20 L xs (d) v1 v2 v3 s.1 s.2 M o) (fun r M o => mp_262_65 L xs (d) r M o)) q o) : mp_262_20 L xs d v1 v2 v3 v4 v5 M o := by
  unfold mf_262_b20 at h
  show mm_Runs L xs (d) 262 (20, [some (.ref 84), some (.int v1), some (.int v2), some (.int v3), some (.int v4), some (.int v5)], [], M) o
  refine mm_Runs.seq (l := [(20, .iload 5, 2), (22, .iload_n 2, 1)]) (S2 := (23, [some (.ref 84), some (.int v1), some (.int v2), some (.int v3), some (.int v4), some (.int v5)], [.int v2, .int v5], M)) (by decide +kernel) (hO := mm_own_262) rfl ?_
  refine mm_R_ige (t := 65) rfl rfl rfl (fun hc => ?_) (fun hc => ?_)
  · replace h := mm_ip hc h
    refine mm_Runs.seq (l := [(26, .iload 4, 2)]) (S2 := (28, [some (.ref 84), some (.int v1), some (.int v2), some (.int v3), some (.int v4), some (.int v5)], [.int v4], M)) (by decide +kernel) (hO := mm_own_262) rfl ?_
    refine mm_R_zeq (t := 65) rfl rfl rfl (fun hc => ?_) (fun hc => ?_)
    · replace h := mm_ip hc h
      cases h
      exact (show mp_262_65 L xs (d) v4 M o from hA) (some (.ref 84)) (some (.int v1)) (some (.int v2)) (some (.int v3)) (some (.int v5))
    · replace h := mm_iq hc h
      refine mm_Runs.seq (l := [(31, .aload_n 0, 1), (32, .getfield 7, 3), (35, .iload_n 1, 1), (36, .iload 5, 2), (38, .iadd, 1)]) (S2 := (39, [some (.ref 84), some (.int v1), some (.int v2), some (.int v3), some (.int v4), some (.int v5)], [.int (v1 + v5), .ref 85], M)) (by decide +kernel) (hO := mm_own_262) rfl ?_
      obtain ⟨hb, h⟩ := mm_gd h
      refine mm_R_iald rfl rfl hb ?_
      refine mm_Runs.seq (l := [(40, .aload_n 0, 1), (41, .getfield 7, 3), (44, .iload_n 3, 1), (45, .iload 5, 2), (47, .iadd, 1)]) (S2 := (48, [some (.ref 84), some (.int v1), some (.int v2), some (.int v3), some (.int v4), some (.int v5)], [.int (v3 + v5), .ref 85, .int (M.1 85 (v1 + v5).toNatClampNeg)], M)) (by decide +kernel) (hO := mm_own_262) rfl ?_
      obtain ⟨hb, h⟩ := mm_gd h
      refine mm_R_iald rfl rfl hb ?_
      refine mm_R_ine (t := 56) rfl rfl rfl (fun hc => ?_) (fun hc => ?_)
      · replace h := mm_ip hc h
        refine mm_Runs.seq (l := [(52, .iconst 1, 1), (53, .goto 4, 3), (57, .istore 4, 2), (59, .iinc 5 1, 3), (62, .goto (-42), 3)]) (S2 := (20, [some (.ref 84), some (.int v1), some (.int v2), some (.int v3), some (.int (1 : Int32)), some (.int (v5 + (1 : Int32)))], [], M)) (by decide +kernel) (hO := mm_own_262) rfl ?_
        cases h
        exact (show mp_262_20 L xs (d) v1 v2 v3 (1 : Int32) (v5 + (1 : Int32)) M o from hA)
      · replace h := mm_iq hc h
        refine mm_Runs.seq (l := [(56, .iconst 0, 1), (57, .istore 4, 2), (59, .iinc 5 1, 3), (62, .goto (-42), 3)]) (S2 := (20, [some (.ref 84), some (.int v1), some (.int v2), some (.int v3), some (.int (0 : Int32)), some (.int (v5 + (1 : Int32)))], [], M)) (by decide +kernel) (hO := mm_own_262) rfl ?_
        cases h
        exact (show mp_262_20 L xs (d) v1 v2 v3 (0 : Int32) (v5 + (1 : Int32)) M o from hA)
  · replace h := mm_iq hc h
    cases h
    exact (show mp_262_65 L xs (d) v4 M o from hA) (some (.ref 84)) (some (.int v1)) (some (.int v2)) (some (.int v3)) (some (.int v5))
theorem ms_262_L20 {L : Nat} {xs : Nat → Int32} {d : Nat} (hd : 0 ≤ d) {v1 : Int32} {v2 : Int32} {v3 : Int32} {v4 : Int32} {v5 : Int32} {β : Type} {K : β → mm_M → mm_E → Prop} {F : (Int32) → mm_M → mm_O β} {M : mm_M} {q : (β ⊕ Nat) × mm_M} {o : mm_E} (h : mm_B (mf_262_L20 v1 v2 v3 (v4, v5) M) F = some q) (hA : mm_A K q o) (hx : ∀ (r : (Int32)) (M2 : mm_M), F r M2 = some q → (fun r M o => mp_262_65 L xs (d) r M o) r M2 o) : mp_262_20 L xs d v1 v2 v3 v4 v5 M o := mm_R_loop (s := (v4, v5)) (M := M) (P := (fun s M o => mp_262_20 L xs (d) v1 v2 v3 s.1 s.2 M o)) (X := (fun r M o => mp_262_65 L xs (d) r M o)) h hA (fun s M q hq hA => ms_262_b20 hd hq hA) hx
noncomputable def mf_262 (v1 : Int32) (v2 : Int32) (v3 : Int32) (M : mm_M) : mm_O Int32 := if (M.1 84 2) < (v3 + v2) then (mm_B (mf_262_L20 v1 v2 v3 ((0 : Int32), (0 : Int32)) M) (fun r2 M1 => if r2 == 0 || r2 == 1 then some (.inl r2, M1) else none)) else (mm_B (mf_262_L20 v1 v2 v3 ((1 : Int32), (0 : Int32)) M) (fun r9 M8 => if r9 == 0 || r9 == 1 then some (.inl r9, M8) else none))
set_option maxRecDepth 8000 in
set_option maxHeartbeats 4000000 in
theorem ms_262 {L : Nat} {xs : Nat → Int32} {d : Nat} (hd : 0 ≤ d) {v1 : Int32} {v2 : Int32} {v3 : Int32} {M : mm_M} {q : (Int32 ⊕ Nat) × mm_M} {o : mm_E} (h : mf_262 v1 v2 v3 M = some q) (hA : mm_A (mm_Kr mm_wi) q o) : mm_Runs L xs d 262 (0, mm_ent (mm_ml 262) [.ref 84, .int v1, .int v2, .int v3], [], M) o := by
  unfold mf_262 at h
  show mm_Runs L xs (d) 262 (0, [some (.ref 84), some (.int v1), some (.int v2), some (.int v3), none, none], [], M) o
  refine mm_Runs.seq (l := [(0, .iload_n 3, 1), (1, .iload_n 2, 1), (2, .iadd, 1), (3, .aload_n 0, 1), (4, .getfield 91, 3)]) (S2 := (7, [some (.ref 84), some (.int v1), some (.int v2), some (.int v3), none, none], [.int (M.1 84 2), .int (v3 + v2)], M)) (by decide +kernel) (hO := mm_own_262) rfl ?_
  refine mm_R_igt (t := 14) rfl rfl rfl (fun hc => ?_) (fun hc => ?_)
  · replace h := mm_ip hc h
    refine mm_Runs.seq (l := [(14, .iconst 0, 1), (15, .istore 4, 2), (17, .iconst 0, 1), (18, .istore 5, 2)]) (S2 := (20, [some (.ref 84), some (.int v1), some (.int v2), some (.int v3), some (.int (0 : Int32)), some (.int (0 : Int32))], [], M)) (by decide +kernel) (hO := mm_own_262) rfl ?_
    have hp : mp_262_20 L xs (d) v1 v2 v3 (0 : Int32) (0 : Int32) M o := by
      refine ms_262_L20 hd h hA (fun r2 M1 h => ?_)
      intro y3 y4 y5 y6 y7
      show mm_Runs L xs (d) 262 (65, [y3, y4, y5, y6, some (.int r2), y7], [], M1) o
      refine mm_Runs.seq (l := [(65, .iload 4, 2)]) (S2 := (67, [y3, y4, y5, y6, some (.int r2), y7], [.int r2], M1)) (by decide +kernel) (hO := mm_own_262) rfl ?_
      obtain ⟨hb, h⟩ := mm_gd h
      cases h
      exact mm_R_retb rfl rfl hb hA
    exact hp
  · replace h := mm_iq hc h
    refine mm_Runs.seq (l := [(10, .iconst 1, 1), (11, .goto 4, 3), (15, .istore 4, 2), (17, .iconst 0, 1), (18, .istore 5, 2)]) (S2 := (20, [some (.ref 84), some (.int v1), some (.int v2), some (.int v3), some (.int (1 : Int32)), some (.int (0 : Int32))], [], M)) (by decide +kernel) (hO := mm_own_262) rfl ?_
    have hp : mp_262_20 L xs (d) v1 v2 v3 (1 : Int32) (0 : Int32) M o := by
      refine ms_262_L20 hd h hA (fun r9 M8 h => ?_)
      intro y10 y11 y12 y13 y14
      show mm_Runs L xs (d) 262 (65, [y10, y11, y12, y13, some (.int r9), y14], [], M8) o
      refine mm_Runs.seq (l := [(65, .iload 4, 2)]) (S2 := (67, [y10, y11, y12, y13, some (.int r9), y14], [.int r9], M8)) (by decide +kernel) (hO := mm_own_262) rfl ?_
      obtain ⟨hb, h⟩ := mm_gd h
      cases h
      exact mm_R_retb rfl rfl hb hA
    exact hp
-- 261: PlainPacksModel.packWords(IZ)V (depth 4)
theorem mm_own_261 : mm_own 261 = 12 := rfl
def mp_261_32 (L : Nat) (xs : Nat → Int32) (d : Nat) (v2 : Int32) (v3 : Int32) (v4 : Int32) (v5 : Int32) (v6 : Int32) (v7 : Int32) (v8 : Int32) (M : mm_M) (o : mm_E) : Prop := ∀ z1 z9 z10 z11 : Option Value, mm_Runs L xs d 261 (32, [some (.ref 84), z1, some (.int v2), some (.int v3), some (.int v4), some (.int v5), some (.int v6), some (.int v7), some (.int v8), z9, z10, z11], [], M) o
def mp_261_219 (L : Nat) (xs : Nat → Int32) (d : Nat) (v2 : Int32) (v3 : Int32) (v4 : Int32) (M : mm_M) (o : mm_E) : Prop := ∀ z1 z5 z6 z7 z8 z9 z10 z11 : Option Value, mm_Runs L xs d 261 (219, [some (.ref 84), z1, some (.int v2), some (.int v3), some (.int v4), z5, z6, z7, z8, z9, z10, z11], [], M) o
def mp_261_77 (L : Nat) (xs : Nat → Int32) (d : Nat) (v2 : Int32) (v3 : Int32) (v4 : Int32) (v5 : Int32) (v8 : Int32) (M : mm_M) (o : mm_E) : Prop := ∀ z1 z6 z7 z9 z10 z11 : Option Value, mm_Runs L xs d 261 (77, [some (.ref 84), z1, some (.int v2), some (.int v3), some (.int v4), some (.int v5), z6, z7, some (.int v8), z9, z10, z11], [], M) o
def mp_261_94 (L : Nat) (xs : Nat → Int32) (d : Nat) (v2 : Int32) (v3 : Int32) (v4 : Int32) (v5 : Int32) (v8 : Int32) (v9 : Int32) (v10 : Int32) (v11 : Int32) (M : mm_M) (o : mm_E) : Prop := ∀ z1 z6 z7 : Option Value, mm_Runs L xs d 261 (94, [some (.ref 84), z1, some (.int v2), some (.int v3), some (.int v4), some (.int v5), z6, z7, some (.int v8), some (.int v9), some (.int v10), some (.int v11)], [], M) o
def mp_261_155 (L : Nat) (xs : Nat → Int32) (d : Nat) (v2 : Int32) (v3 : Int32) (v4 : Int32) (v5 : Int32) (v8 : Int32) (v9 : Int32) (v10 : Int32) (M : mm_M) (o : mm_E) : Prop := ∀ z1 z6 z7 z11 : Option Value, mm_Runs L xs d 261 (155, [some (.ref 84), z1, some (.int v2), some (.int v3), some (.int v4), some (.int v5), z6, z7, some (.int v8), some (.int v9), some (.int v10), z11], [], M) o
noncomputable def mf_261_b94 (v2 : Int32) (v3 : Int32) (v4 : Int32) (v5 : Int32) (v8 : Int32) (v9 : Int32) (v10 : Int32) (v11 : Int32) (M : mm_M) : mm_O ((Int32 × Int32 × Int32) ⊕ (Int32 × Int32)) := if v11 < v5 then (if mm_in v11 4096 then if v10 < (M.1 92 v11.toNatClampNeg) then (if mm_in v11 4096 then if mm_in v11 4096 then mm_B (mf_262 (M.1 91 v11.toNatClampNeg) (M.1 92 v11.toNatClampNeg) v8 M) (fun r1 M2 => if r1 = 0 then (some (.inl (.inl (v9, v10, (v11 + (1 : Int32)))), M2)) else (if mm_in v11 4096 then some (.inl (.inl (v11, (M2.1 92 v11.toNatClampNeg), (v11 + (1 : Int32)))), M2) else none)) else none else none) else (some (.inl (.inl (v9, v10, (v11 + (1 : Int32)))), M)) else none) else (some (.inl (.inr (v9, v10)), M))
noncomputable def mf_261_L94 (v2 : Int32) (v3 : Int32) (v4 : Int32) (v5 : Int32) (v8 : Int32) (s : Int32 × Int32 × Int32) (M : mm_M) : mm_O (Int32 × Int32) := mm_L (fun s M => mf_261_b94 v2 v3 v4 v5 v8 s.1 s.2.1 s.2.2 M) s M
set_option maxRecDepth 8000 in
set_option maxHeartbeats 4000000 in
theorem ms_261_b94 {L : Nat} {xs : Nat → Int32} {d : Nat} (hd : 4 ≤ d) {v2 : Int32} {v3 : Int32} {v4 : Int32} {v5 : Int32} {v8 : Int32} {v9 : Int32} {v10 : Int32} {v11 : Int32} {M : mm_M} {q : (((Int32 × Int32 × Int32) ⊕ (Int32 × Int32)) ⊕ Nat) × mm_M} {o : mm_E} (h : mf_261_b94 v2 v3 v4 v5 v8 v9 v10 v11 M = some q) (hA : mm_A (mm_K2 (fun s M o => mp_261_94 L xs (d) v2 v3 v4 v5 v8 s.1 s.2.1 s.2.2 M o) (fun r M o => mp_261_155 L xs (d) v2 v3 v4 v5 v8 r.1 r.2 M o)) q o) : mp_261_94 L xs d v2 v3 v4 v5 v8 v9 v10 v11 M o := by
  unfold mf_261_b94 at h
  obtain ⟨d, rfl⟩ := mm_d1 (n := 3) hd
  intro z1 z6 z7
  show mm_Runs L xs (d + 1) 261 (94, [some (.ref 84), z1, some (.int v2), some (.int v3), some (.int v4), some (.int v5), z6, z7, some (.int v8), some (.int v9), some (.int v10), some (.int v11)], [], M) o
  refine mm_Runs.seq (l := [(94, .iload 11, 2), (96, .iload 5, 2)]) (S2 := (98, [some (.ref 84), z1, some (.int v2), some (.int v3), some (.int v4), some (.int v5), z6, z7, some (.int v8), some (.int v9), some (.int v10), some (.int v11)], [.int v5, .int v11], M)) (by decide +kernel) (hO := mm_own_261) rfl ?_
  refine mm_R_ige (t := 155) rfl rfl rfl (fun hc => ?_) (fun hc => ?_)
  · replace h := mm_ip hc h
    refine mm_Runs.seq (l := [(101, .aload_n 0, 1), (102, .getfield 31, 3), (105, .iload 11, 2)]) (S2 := (107, [some (.ref 84), z1, some (.int v2), some (.int v3), some (.int v4), some (.int v5), z6, z7, some (.int v8), some (.int v9), some (.int v10), some (.int v11)], [.int v11, .ref 92], M)) (by decide +kernel) (hO := mm_own_261) rfl ?_
    obtain ⟨hb, h⟩ := mm_gd h
    refine mm_R_iald rfl rfl hb ?_
    refine mm_Runs.seq (l := [(108, .iload 10, 2)]) (S2 := (110, [some (.ref 84), z1, some (.int v2), some (.int v3), some (.int v4), some (.int v5), z6, z7, some (.int v8), some (.int v9), some (.int v10), some (.int v11)], [.int v10, .int (M.1 92 v11.toNatClampNeg)], M)) (by decide +kernel) (hO := mm_own_261) rfl ?_
    refine mm_R_ile (t := 149) rfl rfl rfl (fun hc => ?_) (fun hc => ?_)
    · replace h := mm_ip hc h
      refine mm_Runs.seq (l := [(113, .aload_n 0, 1), (114, .aload_n 0, 1), (115, .getfield 28, 3), (118, .iload 11, 2)]) (S2 := (120, [some (.ref 84), z1, some (.int v2), some (.int v3), some (.int v4), some (.int v5), z6, z7, some (.int v8), some (.int v9), some (.int v10), some (.int v11)], [.int v11, .ref 91, .ref 84], M)) (by decide +kernel) (hO := mm_own_261) rfl ?_
      obtain ⟨hb, h⟩ := mm_gd h
      refine mm_R_iald rfl rfl hb ?_
      refine mm_Runs.seq (l := [(121, .aload_n 0, 1), (122, .getfield 31, 3), (125, .iload 11, 2)]) (S2 := (127, [some (.ref 84), z1, some (.int v2), some (.int v3), some (.int v4), some (.int v5), z6, z7, some (.int v8), some (.int v9), some (.int v10), some (.int v11)], [.int v11, .ref 92, .int (M.1 91 v11.toNatClampNeg), .ref 84], M)) (by decide +kernel) (hO := mm_own_261) rfl ?_
      obtain ⟨hb, h⟩ := mm_gd h
      refine mm_R_iald rfl rfl hb ?_
      refine mm_Runs.seq (l := [(128, .iload 8, 2)]) (S2 := (130, [some (.ref 84), z1, some (.int v2), some (.int v3), some (.int v4), some (.int v5), z6, z7, some (.int v8), some (.int v9), some (.int v10), some (.int v11)], [.int v8, .int (M.1 92 v11.toNatClampNeg), .int (M.1 91 v11.toNatClampNeg), .ref 84], M)) (by decide +kernel) (hO := mm_own_261) rfl ?_
      refine mm_R_call (v := mm_wi) h hA (k2 := 262) (as := [.ref 84, .int (M.1 91 v11.toNatClampNeg), .int (M.1 92 v11.toNatClampNeg), .int v8]) (r := []) rfl (fun _ => rfl) (fun q hq o ho => ms_262 (by omega) hq ho) (fun r1 M2 h => ?_)
      show mm_Runs L xs (d + 1) 261 (133, [some (.ref 84), z1, some (.int v2), some (.int v3), some (.int v4), some (.int v5), z6, z7, some (.int v8), some (.int v9), some (.int v10), some (.int v11)], [.int r1], M2) o
      refine mm_R_zeq (t := 149) rfl rfl rfl (fun hc => ?_) (fun hc => ?_)
      · replace h := mm_ip hc h
        refine mm_Runs.seq (l := [(149, .iinc 11 1, 3), (152, .goto (-58), 3)]) (S2 := (94, [some (.ref 84), z1, some (.int v2), some (.int v3), some (.int v4), some (.int v5), z6, z7, some (.int v8), some (.int v9), some (.int v10), some (.int (v11 + (1 : Int32)))], [], M2)) (by decide +kernel) (hO := mm_own_261) rfl ?_
        cases h
        exact (show mp_261_94 L xs (d + 1) v2 v3 v4 v5 v8 v9 v10 (v11 + (1 : Int32)) M2 o from hA) z1 z6 z7
      · replace h := mm_iq hc h
        refine mm_Runs.seq (l := [(136, .iload 11, 2), (138, .istore 9, 2), (140, .aload_n 0, 1), (141, .getfield 31, 3), (144, .iload 11, 2)]) (S2 := (146, [some (.ref 84), z1, some (.int v2), some (.int v3), some (.int v4), some (.int v5), z6, z7, some (.int v8), some (.int v11), some (.int v10), some (.int v11)], [.int v11, .ref 92], M2)) (by decide +kernel) (hO := mm_own_261) rfl ?_
        obtain ⟨hb, h⟩ := mm_gd h
        refine mm_R_iald rfl rfl hb ?_
        refine mm_Runs.seq (l := [(147, .istore 10, 2), (149, .iinc 11 1, 3), (152, .goto (-58), 3)]) (S2 := (94, [some (.ref 84), z1, some (.int v2), some (.int v3), some (.int v4), some (.int v5), z6, z7, some (.int v8), some (.int v11), some (.int (M2.1 92 v11.toNatClampNeg)), some (.int (v11 + (1 : Int32)))], [], M2)) (by decide +kernel) (hO := mm_own_261) rfl ?_
        cases h
        exact (show mp_261_94 L xs (d + 1) v2 v3 v4 v5 v8 v11 (M2.1 92 v11.toNatClampNeg) (v11 + (1 : Int32)) M2 o from hA) z1 z6 z7
    · replace h := mm_iq hc h
      refine mm_Runs.seq (l := [(149, .iinc 11 1, 3), (152, .goto (-58), 3)]) (S2 := (94, [some (.ref 84), z1, some (.int v2), some (.int v3), some (.int v4), some (.int v5), z6, z7, some (.int v8), some (.int v9), some (.int v10), some (.int (v11 + (1 : Int32)))], [], M)) (by decide +kernel) (hO := mm_own_261) rfl ?_
      cases h
      exact (show mp_261_94 L xs (d + 1) v2 v3 v4 v5 v8 v9 v10 (v11 + (1 : Int32)) M o from hA) z1 z6 z7
  · replace h := mm_iq hc h
    cases h
    exact (show mp_261_155 L xs (d + 1) v2 v3 v4 v5 v8 v9 v10 M o from hA) z1 z6 z7 (some (.int v11))
theorem ms_261_L94 {L : Nat} {xs : Nat → Int32} {d : Nat} (hd : 4 ≤ d) {v2 : Int32} {v3 : Int32} {v4 : Int32} {v5 : Int32} {v8 : Int32} {v9 : Int32} {v10 : Int32} {v11 : Int32} {β : Type} {K : β → mm_M → mm_E → Prop} {F : (Int32 × Int32) → mm_M → mm_O β} {M : mm_M} {q : (β ⊕ Nat) × mm_M} {o : mm_E} (h : mm_B (mf_261_L94 v2 v3 v4 v5 v8 (v9, v10, v11) M) F = some q) (hA : mm_A K q o) (hx : ∀ (r : (Int32 × Int32)) (M2 : mm_M), F r M2 = some q → (fun r M o => mp_261_155 L xs (d) v2 v3 v4 v5 v8 r.1 r.2 M o) r M2 o) : mp_261_94 L xs d v2 v3 v4 v5 v8 v9 v10 v11 M o := mm_R_loop (s := (v9, v10, v11)) (M := M) (P := (fun s M o => mp_261_94 L xs (d) v2 v3 v4 v5 v8 s.1 s.2.1 s.2.2 M o)) (X := (fun r M o => mp_261_155 L xs (d) v2 v3 v4 v5 v8 r.1 r.2 M o)) h hA (fun s M q hq hA => ms_261_b94 hd hq hA) hx
def mp_261_200 (L : Nat) (xs : Nat → Int32) (d : Nat) (v2 : Int32) (v3 : Int32) (v4 : Int32) (v5 : Int32) (v6 : Int32) (v7 : Int32) (v8 : Int32) (s0 : Int32) (s1 : Int32) (s2 : Int32) (M : mm_M) (o : mm_E) : Prop := ∀ z1 z9 z10 z11 : Option Value, mm_Runs L xs d 261 (200, [some (.ref 84), z1, some (.int v2), some (.int v3), some (.int v4), some (.int v5), some (.int v6), some (.int v7), some (.int v8), z9, z10, z11], [.int s2, .int s1, .int s0], M) o
noncomputable def mf_261_j200 (v2 : Int32) (v3 : Int32) (v4 : Int32) (v5 : Int32) (v6 : Int32) (v7 : Int32) (v8 : Int32) (s0 : Int32) (s1 : Int32) (s2 : Int32) (M : mm_M) : mm_O ((Int32 × Int32 × Int32 × Int32 × Int32) ⊕ (Int32)) := if (s1 + s2) < (mm_shl (1 : Int32) v4) then (some (.inl (.inl ((s0 + (0 : Int32)), v5, v6, v7, v8)), M)) else (some (.inl (.inl ((s0 + (1 : Int32)), v5, v6, v7, v8)), M))
set_option maxRecDepth 8000 in
set_option maxHeartbeats 4000000 in
theorem ms_261_j200 {L : Nat} {xs : Nat → Int32} {d : Nat} (hd : 4 ≤ d) {v2 : Int32} {v3 : Int32} {v4 : Int32} {v5 : Int32} {v6 : Int32} {v7 : Int32} {v8 : Int32} {s0 : Int32} {s1 : Int32} {s2 : Int32} {M : mm_M} {q : (((Int32 × Int32 × Int32 × Int32 × Int32) ⊕ (Int32)) ⊕ Nat) × mm_M} {o : mm_E} (h : mf_261_j200 v2 v3 v4 v5 v6 v7 v8 s0 s1 s2 M = some q) (hA : mm_A (mm_K2 (fun s M o => mp_261_32 L xs (d) v2 v3 s.1 s.2.1 s.2.2.1 s.2.2.2.1 s.2.2.2.2 M o) (fun r M o => mp_261_219 L xs (d) v2 v3 r M o)) q o) : mp_261_200 L xs d v2 v3 v4 v5 v6 v7 v8 s0 s1 s2 M o := by
  unfold mf_261_j200 at h
  obtain ⟨d, rfl⟩ := mm_d1 (n := 3) hd
  intro z1 z9 z10 z11
  show mm_Runs L xs (d + 1) 261 (200, [some (.ref 84), z1, some (.int v2), some (.int v3), some (.int v4), some (.int v5), some (.int v6), some (.int v7), some (.int v8), z9, z10, z11], [.int s2, .int s1, .int s0], M) o
  refine mm_Runs.seq (l := [(200, .iadd, 1), (201, .iconst 1, 1), (202, .iload 4, 2), (204, .ishl, 1)]) (S2 := (205, [some (.ref 84), z1, some (.int v2), some (.int v3), some (.int v4), some (.int v5), some (.int v6), some (.int v7), some (.int v8), z9, z10, z11], [.int (mm_shl (1 : Int32) v4), .int (s1 + s2), .int s0], M)) (by decide +kernel) (hO := mm_own_261) rfl ?_
  refine mm_R_ilt (t := 212) rfl rfl rfl (fun hc => ?_) (fun hc => ?_)
  · replace h := mm_ip hc h
    refine mm_Runs.seq (l := [(212, .iconst 0, 1), (213, .iadd, 1), (214, .istore 4, 2), (216, .goto (-184), 3)]) (S2 := (32, [some (.ref 84), z1, some (.int v2), some (.int v3), some (.int (s0 + (0 : Int32))), some (.int v5), some (.int v6), some (.int v7), some (.int v8), z9, z10, z11], [], M)) (by decide +kernel) (hO := mm_own_261) rfl ?_
    cases h
    exact (show mp_261_32 L xs (d + 1) v2 v3 (s0 + (0 : Int32)) v5 v6 v7 v8 M o from hA) z1 z9 z10 z11
  · replace h := mm_iq hc h
    refine mm_Runs.seq (l := [(208, .iconst 1, 1), (209, .goto 4, 3), (213, .iadd, 1), (214, .istore 4, 2), (216, .goto (-184), 3)]) (S2 := (32, [some (.ref 84), z1, some (.int v2), some (.int v3), some (.int (s0 + (1 : Int32))), some (.int v5), some (.int v6), some (.int v7), some (.int v8), z9, z10, z11], [], M)) (by decide +kernel) (hO := mm_own_261) rfl ?_
    cases h
    exact (show mp_261_32 L xs (d + 1) v2 v3 (s0 + (1 : Int32)) v5 v6 v7 v8 M o from hA) z1 z9 z10 z11
noncomputable def mf_261_j155 (v2 : Int32) (v3 : Int32) (v4 : Int32) (v5 : Int32) (v8 : Int32) (v9 : Int32) (v10 : Int32) (M : mm_M) : mm_O ((Int32 × Int32 × Int32 × Int32 × Int32) ⊕ (Int32)) := mm_B (mf_249 v9.toInt64 v4 v2 M) (fun _ M1 => if v4 < (12 : Int32) then (if v2 = 0 then (mf_261_j200 v2 v3 v4 v5 v8 v10 (v8 + v10) v4 v5 (0 : Int32) M1) else (mf_261_j200 v2 v3 v4 v5 v8 v10 (v8 + v10) v4 v5 (1 : Int32) M1)) else (some (.inl (.inl ((v4 + (0 : Int32)), v5, v8, v10, (v8 + v10))), M1)))
set_option maxRecDepth 8000 in
set_option maxHeartbeats 4000000 in
theorem ms_261_j155 {L : Nat} {xs : Nat → Int32} {d : Nat} (hd : 4 ≤ d) {v2 : Int32} {v3 : Int32} {v4 : Int32} {v5 : Int32} {v8 : Int32} {v9 : Int32} {v10 : Int32} {M : mm_M} {q : (((Int32 × Int32 × Int32 × Int32 × Int32) ⊕ (Int32)) ⊕ Nat) × mm_M} {o : mm_E} (h : mf_261_j155 v2 v3 v4 v5 v8 v9 v10 M = some q) (hA : mm_A (mm_K2 (fun s M o => mp_261_32 L xs (d) v2 v3 s.1 s.2.1 s.2.2.1 s.2.2.2.1 s.2.2.2.2 M o) (fun r M o => mp_261_219 L xs (d) v2 v3 r M o)) q o) : mp_261_155 L xs d v2 v3 v4 v5 v8 v9 v10 M o := by
  unfold mf_261_j155 at h
  obtain ⟨d, rfl⟩ := mm_d1 (n := 3) hd
  intro z1 z6 z7 z11
  show mm_Runs L xs (d + 1) 261 (155, [some (.ref 84), z1, some (.int v2), some (.int v3), some (.int v4), some (.int v5), z6, z7, some (.int v8), some (.int v9), some (.int v10), z11], [], M) o
  refine mm_Runs.seq (l := [(155, .aload_n 0, 1), (156, .iload 9, 2), (158, .i2l, 1), (159, .iload 4, 2), (161, .iload_n 2, 1)]) (S2 := (162, [some (.ref 84), z1, some (.int v2), some (.int v3), some (.int v4), some (.int v5), z6, z7, some (.int v8), some (.int v9), some (.int v10), z11], [.int v2, .int v4, .long v9.toInt64, .ref 84], M)) (by decide +kernel) (hO := mm_own_261) rfl ?_
  refine mm_R_call (v := mm_wv) h hA (k2 := 249) (as := [.ref 84, .long v9.toInt64, .int v4, .int v2]) (r := []) rfl (fun _ => rfl) (fun q hq o ho => ms_249 (by omega) hq ho) (fun _ M1 h => ?_)
  show mm_Runs L xs (d + 1) 261 (165, [some (.ref 84), z1, some (.int v2), some (.int v3), some (.int v4), some (.int v5), z6, z7, some (.int v8), some (.int v9), some (.int v10), z11], [], M1) o
  refine mm_Runs.seq (l := [(165, .iload 8, 2), (167, .istore 6, 2), (169, .iload 10, 2), (171, .istore 7, 2), (173, .iload 8, 2), (175, .iload 10, 2), (177, .iadd, 1), (178, .istore 8, 2), (180, .iload 4, 2), (182, .iload 4, 2), (184, .bipush 12, 2)]) (S2 := (186, [some (.ref 84), z1, some (.int v2), some (.int v3), some (.int v4), some (.int v5), some (.int v8), some (.int v10), some (.int (v8 + v10)), some (.int v9), some (.int v10), z11], [.int (12 : Int32), .int v4, .int v4], M1)) (by decide +kernel) (hO := mm_own_261) rfl ?_
  refine mm_R_ige (t := 212) rfl rfl rfl (fun hc => ?_) (fun hc => ?_)
  · replace h := mm_ip hc h
    refine mm_Runs.seq (l := [(189, .iload 5, 2), (191, .iload_n 2, 1)]) (S2 := (192, [some (.ref 84), z1, some (.int v2), some (.int v3), some (.int v4), some (.int v5), some (.int v8), some (.int v10), some (.int (v8 + v10)), some (.int v9), some (.int v10), z11], [.int v2, .int v5, .int v4], M1)) (by decide +kernel) (hO := mm_own_261) rfl ?_
    refine mm_R_zeq (t := 199) rfl rfl rfl (fun hc => ?_) (fun hc => ?_)
    · replace h := mm_ip hc h
      refine mm_Runs.seq (l := [(199, .iconst 0, 1)]) (S2 := (200, [some (.ref 84), z1, some (.int v2), some (.int v3), some (.int v4), some (.int v5), some (.int v8), some (.int v10), some (.int (v8 + v10)), some (.int v9), some (.int v10), z11], [.int (0 : Int32), .int v5, .int v4], M1)) (by decide +kernel) (hO := mm_own_261) rfl ?_
      exact (ms_261_j200 hd h hA : mp_261_200 L xs (d + 1) v2 v3 v4 v5 v8 v10 (v8 + v10) v4 v5 (0 : Int32) M1 o) z1 (some (.int v9)) (some (.int v10)) z11
    · replace h := mm_iq hc h
      refine mm_Runs.seq (l := [(195, .iconst 1, 1), (196, .goto 4, 3)]) (S2 := (200, [some (.ref 84), z1, some (.int v2), some (.int v3), some (.int v4), some (.int v5), some (.int v8), some (.int v10), some (.int (v8 + v10)), some (.int v9), some (.int v10), z11], [.int (1 : Int32), .int v5, .int v4], M1)) (by decide +kernel) (hO := mm_own_261) rfl ?_
      exact (ms_261_j200 hd h hA : mp_261_200 L xs (d + 1) v2 v3 v4 v5 v8 v10 (v8 + v10) v4 v5 (1 : Int32) M1 o) z1 (some (.int v9)) (some (.int v10)) z11
  · replace h := mm_iq hc h
    refine mm_Runs.seq (l := [(212, .iconst 0, 1), (213, .iadd, 1), (214, .istore 4, 2), (216, .goto (-184), 3)]) (S2 := (32, [some (.ref 84), z1, some (.int v2), some (.int v3), some (.int (v4 + (0 : Int32))), some (.int v5), some (.int v8), some (.int v10), some (.int (v8 + v10)), some (.int v9), some (.int v10), z11], [], M1)) (by decide +kernel) (hO := mm_own_261) rfl ?_
    cases h
    exact (show mp_261_32 L xs (d + 1) v2 v3 (v4 + (0 : Int32)) v5 v8 v10 (v8 + v10) M1 o from hA) z1 (some (.int v9)) (some (.int v10)) z11
noncomputable def mf_261_j77 (v2 : Int32) (v3 : Int32) (v4 : Int32) (v5 : Int32) (v8 : Int32) (M : mm_M) : mm_O ((Int32 × Int32 × Int32 × Int32 × Int32) ⊕ (Int32)) := if mm_in v8 10000 then mm_B (mf_261_L94 v2 v3 v4 v5 v8 ((M.1 85 v8.toNatClampNeg), (1 : Int32), (v3 + (2 : Int32))) M) (fun r2 M1 => mf_261_j155 v2 v3 v4 v5 v8 r2.1 r2.2 M1) else none
set_option maxRecDepth 8000 in
set_option maxHeartbeats 4000000 in
theorem ms_261_j77 {L : Nat} {xs : Nat → Int32} {d : Nat} (hd : 4 ≤ d) {v2 : Int32} {v3 : Int32} {v4 : Int32} {v5 : Int32} {v8 : Int32} {M : mm_M} {q : (((Int32 × Int32 × Int32 × Int32 × Int32) ⊕ (Int32)) ⊕ Nat) × mm_M} {o : mm_E} (h : mf_261_j77 v2 v3 v4 v5 v8 M = some q) (hA : mm_A (mm_K2 (fun s M o => mp_261_32 L xs (d) v2 v3 s.1 s.2.1 s.2.2.1 s.2.2.2.1 s.2.2.2.2 M o) (fun r M o => mp_261_219 L xs (d) v2 v3 r M o)) q o) : mp_261_77 L xs d v2 v3 v4 v5 v8 M o := by
  unfold mf_261_j77 at h
  obtain ⟨d, rfl⟩ := mm_d1 (n := 3) hd
  intro z1 z6 z7 z9 z10 z11
  show mm_Runs L xs (d + 1) 261 (77, [some (.ref 84), z1, some (.int v2), some (.int v3), some (.int v4), some (.int v5), z6, z7, some (.int v8), z9, z10, z11], [], M) o
  refine mm_Runs.seq (l := [(77, .aload_n 0, 1), (78, .getfield 7, 3), (81, .iload 8, 2)]) (S2 := (83, [some (.ref 84), z1, some (.int v2), some (.int v3), some (.int v4), some (.int v5), z6, z7, some (.int v8), z9, z10, z11], [.int v8, .ref 85], M)) (by decide +kernel) (hO := mm_own_261) rfl ?_
  obtain ⟨hb, h⟩ := mm_gd h
  refine mm_R_iald rfl rfl hb ?_
  refine mm_Runs.seq (l := [(84, .istore 9, 2), (86, .iconst 1, 1), (87, .istore 10, 2), (89, .iload_n 3, 1), (90, .iconst 2, 1), (91, .iadd, 1), (92, .istore 11, 2)]) (S2 := (94, [some (.ref 84), z1, some (.int v2), some (.int v3), some (.int v4), some (.int v5), z6, z7, some (.int v8), some (.int (M.1 85 v8.toNatClampNeg)), some (.int (1 : Int32)), some (.int (v3 + (2 : Int32)))], [], M)) (by decide +kernel) (hO := mm_own_261) rfl ?_
  have hp : mp_261_94 L xs (d + 1) v2 v3 v4 v5 v8 (M.1 85 v8.toNatClampNeg) (1 : Int32) (v3 + (2 : Int32)) M o := by
    refine ms_261_L94 hd h hA (fun r2 M1 h => ?_)
    intro y3 y4 y5 y6
    show mm_Runs L xs (d + 1) 261 (155, [some (.ref 84), y3, some (.int v2), some (.int v3), some (.int v4), some (.int v5), y4, y5, some (.int v8), some (.int r2.1), some (.int r2.2), y6], [], M1) o
    exact (ms_261_j155 hd h hA : mp_261_155 L xs (d + 1) v2 v3 v4 v5 v8 r2.1 r2.2 M1 o) y3 y4 y5 y6
  exact hp z1 z6 z7
noncomputable def mf_261_b32 (v2 : Int32) (v3 : Int32) (v4 : Int32) (v5 : Int32) (v6 : Int32) (v7 : Int32) (v8 : Int32) (M : mm_M) : mm_O ((Int32 × Int32 × Int32 × Int32 × Int32) ⊕ (Int32)) := if v8 < (M.1 84 2) then (if 0 < v7 then (if v5 < (4096 : Int32) then (if mm_in v5 4096 then if mm_in v5 4096 then mf_261_j77 v2 v3 v4 (v5 + (1 : Int32)) v8 (mm_pi (mm_pi M 91 v5.toNatClampNeg v6) 92 v5.toNatClampNeg (v7 + (1 : Int32))) else none else none) else (mf_261_j77 v2 v3 v4 v5 v8 M)) else (mf_261_j77 v2 v3 v4 v5 v8 M)) else (some (.inl (.inr v4), M))
noncomputable def mf_261_L32 (v2 : Int32) (v3 : Int32) (s : Int32 × Int32 × Int32 × Int32 × Int32) (M : mm_M) : mm_O (Int32) := mm_L (fun s M => mf_261_b32 v2 v3 s.1 s.2.1 s.2.2.1 s.2.2.2.1 s.2.2.2.2 M) s M
set_option maxRecDepth 8000 in
set_option maxHeartbeats 4000000 in
theorem ms_261_b32 {L : Nat} {xs : Nat → Int32} {d : Nat} (hd : 4 ≤ d) {v2 : Int32} {v3 : Int32} {v4 : Int32} {v5 : Int32} {v6 : Int32} {v7 : Int32} {v8 : Int32} {M : mm_M} {q : (((Int32 × Int32 × Int32 × Int32 × Int32) ⊕ (Int32)) ⊕ Nat) × mm_M} {o : mm_E} (h : mf_261_b32 v2 v3 v4 v5 v6 v7 v8 M = some q) (hA : mm_A (mm_K2 (fun s M o => mp_261_32 L xs (d) v2 v3 s.1 s.2.1 s.2.2.1 s.2.2.2.1 s.2.2.2.2 M o) (fun r M o => mp_261_219 L xs (d) v2 v3 r M o)) q o) : mp_261_32 L xs d v2 v3 v4 v5 v6 v7 v8 M o := by
  unfold mf_261_b32 at h
  obtain ⟨d, rfl⟩ := mm_d1 (n := 3) hd
  intro z1 z9 z10 z11
  show mm_Runs L xs (d + 1) 261 (32, [some (.ref 84), z1, some (.int v2), some (.int v3), some (.int v4), some (.int v5), some (.int v6), some (.int v7), some (.int v8), z9, z10, z11], [], M) o
  refine mm_Runs.seq (l := [(32, .iload 8, 2), (34, .aload_n 0, 1), (35, .getfield 91, 3)]) (S2 := (38, [some (.ref 84), z1, some (.int v2), some (.int v3), some (.int v4), some (.int v5), some (.int v6), some (.int v7), some (.int v8), z9, z10, z11], [.int (M.1 84 2), .int v8], M)) (by decide +kernel) (hO := mm_own_261) rfl ?_
  refine mm_R_ige (t := 219) rfl rfl rfl (fun hc => ?_) (fun hc => ?_)
  · replace h := mm_ip hc h
    refine mm_Runs.seq (l := [(41, .iload 7, 2)]) (S2 := (43, [some (.ref 84), z1, some (.int v2), some (.int v3), some (.int v4), some (.int v5), some (.int v6), some (.int v7), some (.int v8), z9, z10, z11], [.int v7], M)) (by decide +kernel) (hO := mm_own_261) rfl ?_
    refine mm_R_zle (t := 77) rfl rfl rfl (fun hc => ?_) (fun hc => ?_)
    · replace h := mm_ip hc h
      refine mm_Runs.seq (l := [(46, .iload 5, 2), (48, .sipush 4096, 3)]) (S2 := (51, [some (.ref 84), z1, some (.int v2), some (.int v3), some (.int v4), some (.int v5), some (.int v6), some (.int v7), some (.int v8), z9, z10, z11], [.int (4096 : Int32), .int v5], M)) (by decide +kernel) (hO := mm_own_261) rfl ?_
      refine mm_R_ige (t := 77) rfl rfl rfl (fun hc => ?_) (fun hc => ?_)
      · replace h := mm_ip hc h
        refine mm_Runs.seq (l := [(54, .aload_n 0, 1), (55, .getfield 28, 3), (58, .iload 5, 2), (60, .iload 6, 2)]) (S2 := (62, [some (.ref 84), z1, some (.int v2), some (.int v3), some (.int v4), some (.int v5), some (.int v6), some (.int v7), some (.int v8), z9, z10, z11], [.int v6, .int v5, .ref 91], M)) (by decide +kernel) (hO := mm_own_261) rfl ?_
        obtain ⟨hb, h⟩ := mm_gd h
        refine mm_R_iast rfl rfl hb ?_
        refine mm_Runs.seq (l := [(63, .aload_n 0, 1), (64, .getfield 31, 3), (67, .iload 5, 2), (69, .iload 7, 2), (71, .iconst 1, 1), (72, .iadd, 1)]) (S2 := (73, [some (.ref 84), z1, some (.int v2), some (.int v3), some (.int v4), some (.int v5), some (.int v6), some (.int v7), some (.int v8), z9, z10, z11], [.int (v7 + (1 : Int32)), .int v5, .ref 92], (mm_pi M 91 v5.toNatClampNeg v6))) (by decide +kernel) (hO := mm_own_261) rfl ?_
        obtain ⟨hb, h⟩ := mm_gd h
        refine mm_R_iast rfl rfl hb ?_
        refine mm_Runs.seq (l := [(74, .iinc 5 1, 3)]) (S2 := (77, [some (.ref 84), z1, some (.int v2), some (.int v3), some (.int v4), some (.int (v5 + (1 : Int32))), some (.int v6), some (.int v7), some (.int v8), z9, z10, z11], [], (mm_pi (mm_pi M 91 v5.toNatClampNeg v6) 92 v5.toNatClampNeg (v7 + (1 : Int32))))) (by decide +kernel) (hO := mm_own_261) rfl ?_
        exact (ms_261_j77 hd h hA : mp_261_77 L xs (d + 1) v2 v3 v4 (v5 + (1 : Int32)) v8 (mm_pi (mm_pi M 91 v5.toNatClampNeg v6) 92 v5.toNatClampNeg (v7 + (1 : Int32))) o) z1 (some (.int v6)) (some (.int v7)) z9 z10 z11
      · replace h := mm_iq hc h
        exact (ms_261_j77 hd h hA : mp_261_77 L xs (d + 1) v2 v3 v4 v5 v8 M o) z1 (some (.int v6)) (some (.int v7)) z9 z10 z11
    · replace h := mm_iq hc h
      exact (ms_261_j77 hd h hA : mp_261_77 L xs (d + 1) v2 v3 v4 v5 v8 M o) z1 (some (.int v6)) (some (.int v7)) z9 z10 z11
  · replace h := mm_iq hc h
    cases h
    exact (show mp_261_219 L xs (d + 1) v2 v3 v4 M o from hA) z1 (some (.int v5)) (some (.int v6)) (some (.int v7)) (some (.int v8)) z9 z10 z11
theorem ms_261_L32 {L : Nat} {xs : Nat → Int32} {d : Nat} (hd : 4 ≤ d) {v2 : Int32} {v3 : Int32} {v4 : Int32} {v5 : Int32} {v6 : Int32} {v7 : Int32} {v8 : Int32} {β : Type} {K : β → mm_M → mm_E → Prop} {F : (Int32) → mm_M → mm_O β} {M : mm_M} {q : (β ⊕ Nat) × mm_M} {o : mm_E} (h : mm_B (mf_261_L32 v2 v3 (v4, v5, v6, v7, v8) M) F = some q) (hA : mm_A K q o) (hx : ∀ (r : (Int32)) (M2 : mm_M), F r M2 = some q → (fun r M o => mp_261_219 L xs (d) v2 v3 r M o) r M2 o) : mp_261_32 L xs d v2 v3 v4 v5 v6 v7 v8 M o := mm_R_loop (s := (v4, v5, v6, v7, v8)) (M := M) (P := (fun s M o => mp_261_32 L xs (d) v2 v3 s.1 s.2.1 s.2.2.1 s.2.2.2.1 s.2.2.2.2 M o)) (X := (fun r M o => mp_261_219 L xs (d) v2 v3 r M o)) h hA (fun s M q hq hA => ms_261_b32 hd hq hA) hx
noncomputable def mf_261_j219 (v2 : Int32) (v3 : Int32) (v4 : Int32) (M : mm_M) : mm_O Unit := mm_B (mf_249 (v3 + (1 : Int32)).toInt64 v4 v2 M) (fun _ M1 => mm_B (mf_248 M1) (fun _ M2 => some (.inl (), M2)))
set_option maxRecDepth 8000 in
set_option maxHeartbeats 4000000 in
theorem ms_261_j219 {L : Nat} {xs : Nat → Int32} {d : Nat} (hd : 4 ≤ d) {v2 : Int32} {v3 : Int32} {v4 : Int32} {M : mm_M} {q : (Unit ⊕ Nat) × mm_M} {o : mm_E} (h : mf_261_j219 v2 v3 v4 M = some q) (hA : mm_A (mm_Kr mm_wv) q o) : mp_261_219 L xs d v2 v3 v4 M o := by
  unfold mf_261_j219 at h
  obtain ⟨d, rfl⟩ := mm_d1 (n := 3) hd
  intro z1 z5 z6 z7 z8 z9 z10 z11
  show mm_Runs L xs (d + 1) 261 (219, [some (.ref 84), z1, some (.int v2), some (.int v3), some (.int v4), z5, z6, z7, z8, z9, z10, z11], [], M) o
  refine mm_Runs.seq (l := [(219, .aload_n 0, 1), (220, .iload_n 3, 1), (221, .iconst 1, 1), (222, .iadd, 1), (223, .i2l, 1), (224, .iload 4, 2), (226, .iload_n 2, 1)]) (S2 := (227, [some (.ref 84), z1, some (.int v2), some (.int v3), some (.int v4), z5, z6, z7, z8, z9, z10, z11], [.int v2, .int v4, .long (v3 + (1 : Int32)).toInt64, .ref 84], M)) (by decide +kernel) (hO := mm_own_261) rfl ?_
  refine mm_R_call (v := mm_wv) h hA (k2 := 249) (as := [.ref 84, .long (v3 + (1 : Int32)).toInt64, .int v4, .int v2]) (r := []) rfl (fun _ => rfl) (fun q hq o ho => ms_249 (by omega) hq ho) (fun _ M1 h => ?_)
  show mm_Runs L xs (d + 1) 261 (230, [some (.ref 84), z1, some (.int v2), some (.int v3), some (.int v4), z5, z6, z7, z8, z9, z10, z11], [], M1) o
  refine mm_Runs.seq (l := [(230, .aload_n 0, 1)]) (S2 := (231, [some (.ref 84), z1, some (.int v2), some (.int v3), some (.int v4), z5, z6, z7, z8, z9, z10, z11], [.ref 84], M1)) (by decide +kernel) (hO := mm_own_261) rfl ?_
  refine mm_R_call (v := mm_wv) h hA (k2 := 248) (as := [.ref 84]) (r := []) rfl (fun _ => rfl) (fun q hq o ho => ms_248 (by omega) hq ho) (fun _ M2 h => ?_)
  show mm_Runs L xs (d + 1) 261 (234, [some (.ref 84), z1, some (.int v2), some (.int v3), some (.int v4), z5, z6, z7, z8, z9, z10, z11], [], M2) o
  cases h
  exact mm_R_retv rfl rfl hA
noncomputable def mf_261 (v1 : Int32) (v2 : Int32) (M : mm_M) : mm_O Unit := mm_B (mf_249 (mm_shl (1 : Int32) v1).toInt64 (v1 + (1 : Int32)) v2 M) (fun _ M1 => mm_B (mf_261_L32 v2 (mm_shl (1 : Int32) v1) ((v1 + (1 : Int32)), ((mm_shl (1 : Int32) v1) + (2 : Int32)), (0 : Int32), (0 : Int32), (0 : Int32)) M1) (fun r3 M2 => mf_261_j219 v2 (mm_shl (1 : Int32) v1) r3 M2))
set_option maxRecDepth 8000 in
set_option maxHeartbeats 4000000 in
theorem ms_261 {L : Nat} {xs : Nat → Int32} {d : Nat} (hd : 4 ≤ d) {v1 : Int32} {v2 : Int32} {M : mm_M} {q : (Unit ⊕ Nat) × mm_M} {o : mm_E} (h : mf_261 v1 v2 M = some q) (hA : mm_A (mm_Kr mm_wv) q o) : mm_Runs L xs d 261 (0, mm_ent (mm_ml 261) [.ref 84, .int v1, .int v2], [], M) o := by
  unfold mf_261 at h
  obtain ⟨d, rfl⟩ := mm_d1 (n := 3) hd
  show mm_Runs L xs (d + 1) 261 (0, [some (.ref 84), some (.int v1), some (.int v2), none, none, none, none, none, none, none, none, none], [], M) o
  refine mm_Runs.seq (l := [(0, .iconst 1, 1), (1, .iload_n 1, 1), (2, .ishl, 1), (3, .istore_n 3, 1), (4, .iload_n 1, 1), (5, .iconst 1, 1), (6, .iadd, 1), (7, .istore 4, 2), (9, .iload_n 3, 1), (10, .iconst 2, 1), (11, .iadd, 1), (12, .istore 5, 2), (14, .iconst 0, 1), (15, .istore 6, 2), (17, .iconst 0, 1), (18, .istore 7, 2), (20, .aload_n 0, 1), (21, .iload_n 3, 1), (22, .i2l, 1), (23, .iload 4, 2), (25, .iload_n 2, 1)]) (S2 := (26, [some (.ref 84), some (.int v1), some (.int v2), some (.int (mm_shl (1 : Int32) v1)), some (.int (v1 + (1 : Int32))), some (.int ((mm_shl (1 : Int32) v1) + (2 : Int32))), some (.int (0 : Int32)), some (.int (0 : Int32)), none, none, none, none], [.int v2, .int (v1 + (1 : Int32)), .long (mm_shl (1 : Int32) v1).toInt64, .ref 84], M)) (by decide +kernel) (hO := mm_own_261) rfl ?_
  refine mm_R_call (v := mm_wv) h hA (k2 := 249) (as := [.ref 84, .long (mm_shl (1 : Int32) v1).toInt64, .int (v1 + (1 : Int32)), .int v2]) (r := []) rfl (fun _ => rfl) (fun q hq o ho => ms_249 (by omega) hq ho) (fun _ M1 h => ?_)
  show mm_Runs L xs (d + 1) 261 (29, [some (.ref 84), some (.int v1), some (.int v2), some (.int (mm_shl (1 : Int32) v1)), some (.int (v1 + (1 : Int32))), some (.int ((mm_shl (1 : Int32) v1) + (2 : Int32))), some (.int (0 : Int32)), some (.int (0 : Int32)), none, none, none, none], [], M1) o
  refine mm_Runs.seq (l := [(29, .iconst 0, 1), (30, .istore 8, 2)]) (S2 := (32, [some (.ref 84), some (.int v1), some (.int v2), some (.int (mm_shl (1 : Int32) v1)), some (.int (v1 + (1 : Int32))), some (.int ((mm_shl (1 : Int32) v1) + (2 : Int32))), some (.int (0 : Int32)), some (.int (0 : Int32)), some (.int (0 : Int32)), none, none, none], [], M1)) (by decide +kernel) (hO := mm_own_261) rfl ?_
  have hp : mp_261_32 L xs (d + 1) v2 (mm_shl (1 : Int32) v1) (v1 + (1 : Int32)) ((mm_shl (1 : Int32) v1) + (2 : Int32)) (0 : Int32) (0 : Int32) (0 : Int32) M1 o := by
    refine ms_261_L32 hd h hA (fun r3 M2 h => ?_)
    intro y4 y5 y6 y7 y8 y9 y10 y11
    show mm_Runs L xs (d + 1) 261 (219, [some (.ref 84), y4, some (.int v2), some (.int (mm_shl (1 : Int32) v1)), some (.int r3), y5, y6, y7, y8, y9, y10, y11], [], M2) o
    exact (ms_261_j219 hd h hA : mp_261_219 L xs (d + 1) v2 (mm_shl (1 : Int32) v1) r3 M2 o) y4 y5 y6 y7 y8 y9 y10 y11
  exact hp (some (.int v1)) none none none
