/-! MEANINGS 39 -/
-- 276: PlainPacksModel.packSorted()V (depth 5)
theorem mm_own_276 : mm_own 276 = 12 := rfl
def mp_276_87 (L : Nat) (xs : Nat → Int32) (d : Nat) (v1 : Int32) (v2 : Int32) (v3 : Int32) (M : mm_M) (o : mm_E) : Prop := mm_Runs L xs d 276 (87, [some (.ref 84), some (.int v1), some (.int v2), some (.int v3)], [], M) o
def mp_276_113 (L : Nat) (xs : Nat → Int32) (d : Nat) (v1 : Int32) (v2 : Int32) (v3 : Int32) (M : mm_M) (o : mm_E) : Prop := mm_Runs L xs d 276 (113, [some (.ref 84), some (.int v1), some (.int v2), some (.int v3)], [], M) o
noncomputable def mf_276_b87 (v1 : Int32) (v2 : Int32) (v3 : Int32) (M : mm_M) : mm_O ((Int32) ⊕ (Int32)) := if mm_in v3 12600 then if mm_in (M.1 105 v3.toNatClampNeg) 12600 then if mm_in (0 : Int32) 12600 then if (M.1 103 (M.1 105 v3.toNatClampNeg).toNatClampNeg) = (M.1 103 (0 : Int32).toNatClampNeg) then (some (.inl (.inr v3), M)) else (some (.inl (.inl (v3 + (1 : Int32))), M)) else none else none else none
noncomputable def mf_276_L87 (v1 : Int32) (v2 : Int32) (s : Int32) (M : mm_M) : mm_O (Int32) := mm_L (fun s M => mf_276_b87 v1 v2 s M) s M
set_option maxRecDepth 8000 in
set_option maxHeartbeats 4000000 in
theorem ms_276_b87 {L : Nat} {xs : Nat → Int32} {d : Nat} (hd : 5 ≤ d) {v1 : Int32} {v2 : Int32} {v3 : Int32} {M : mm_M} {q : (((Int32) ⊕ (Int32)) ⊕ Nat) × mm_M} {o : mm_E} (h : mf_276_b87 v1 v2 v3 M = some q) (hA : mm_A (mm_K2 (fun s M o => mp_276_87 L xs (d) v1 v2 s M o) (fun r M o => mp_276_113 L xs (d) v1 v2 r M o)) q o) : mp_276_87 L xs d v1 v2 v3 M o := by
  unfold mf_276_b87 at h
  obtain ⟨d, rfl⟩ := mm_d1 (n := 4) hd
  show mm_Runs L xs (d + 1) 276 (87, [some (.ref 84), some (.int v1), some (.int v2), some (.int v3)], [], M) o
  refine mm_Runs.seq (l := [(87, .aload_n 0, 1), (88, .getfield 66, 3), (91, .aload_n 0, 1), (92, .getfield 72, 3), (95, .iload_n 3, 1)]) (S2 := (96, [some (.ref 84), some (.int v1), some (.int v2), some (.int v3)], [.int v3, .ref 105, .ref 103], M)) (by decide +kernel) (hO := mm_own_276) rfl ?_
  obtain ⟨hb, h⟩ := mm_gd h
  refine mm_R_iald rfl rfl hb ?_
  obtain ⟨hb, h⟩ := mm_gd h
  refine mm_R_iald rfl rfl hb ?_
  refine mm_Runs.seq (l := [(98, .aload_n 0, 1), (99, .getfield 66, 3), (102, .iconst 0, 1)]) (S2 := (103, [some (.ref 84), some (.int v1), some (.int v2), some (.int v3)], [.int (0 : Int32), .ref 103, .int (M.1 103 (M.1 105 v3.toNatClampNeg).toNatClampNeg)], M)) (by decide +kernel) (hO := mm_own_276) rfl ?_
  obtain ⟨hb, h⟩ := mm_gd h
  refine mm_R_iald rfl rfl hb ?_
  refine mm_R_ieq (t := 113) rfl rfl rfl (fun hc => ?_) (fun hc => ?_)
  · replace h := mm_ip hc h
    cases h
    exact (show mp_276_113 L xs (d + 1) v1 v2 v3 M o from hA)
  · replace h := mm_iq hc h
    refine mm_Runs.seq (l := [(107, .iinc 3 1, 3), (110, .goto (-23), 3)]) (S2 := (87, [some (.ref 84), some (.int v1), some (.int v2), some (.int (v3 + (1 : Int32)))], [], M)) (by decide +kernel) (hO := mm_own_276) rfl ?_
    cases h
    exact (show mp_276_87 L xs (d + 1) v1 v2 (v3 + (1 : Int32)) M o from hA)
theorem ms_276_L87 {L : Nat} {xs : Nat → Int32} {d : Nat} (hd : 5 ≤ d) {v1 : Int32} {v2 : Int32} {v3 : Int32} {β : Type} {K : β → mm_M → mm_E → Prop} {F : (Int32) → mm_M → mm_O β} {M : mm_M} {q : (β ⊕ Nat) × mm_M} {o : mm_E} (h : mm_B (mf_276_L87 v1 v2 v3 M) F = some q) (hA : mm_A K q o) (hx : ∀ (r : (Int32)) (M2 : mm_M), F r M2 = some q → (fun r M o => mp_276_113 L xs (d) v1 v2 r M o) r M2 o) : mp_276_87 L xs d v1 v2 v3 M o := mm_R_loop (s := v3) (M := M) (P := (fun s M o => mp_276_87 L xs (d) v1 v2 s M o)) (X := (fun r M o => mp_276_113 L xs (d) v1 v2 r M o)) h hA (fun s M q hq hA => ms_276_b87 hd hq hA) hx
def mp_276_132 (L : Nat) (xs : Nat → Int32) (d : Nat) (v1 : Int32) (M : mm_M) (o : mm_E) : Prop := ∀ z2 z3 : Option Value, mm_Runs L xs d 276 (132, [some (.ref 84), some (.int v1), z2, z3], [], M) o
def mp_276_156 (L : Nat) (xs : Nat → Int32) (d : Nat) (s1 : Int64) (M : mm_M) (o : mm_E) : Prop := ∀ z1 z2 z3 : Option Value, mm_Runs L xs d 276 (156, [some (.ref 84), z1, z2, z3], [.long s1, .ref 84], M) o
noncomputable def mf_276_j156 (s1 : Int64) (M : mm_M) : mm_O Unit := mm_B (mf_249 s1 (32 : Int32) (1 : Int32) M) (fun _ M1 => mm_B (mf_248 M1) (fun _ M2 => some (.inl (), M2)))
set_option maxRecDepth 8000 in
set_option maxHeartbeats 4000000 in
theorem ms_276_j156 {L : Nat} {xs : Nat → Int32} {d : Nat} (hd : 5 ≤ d) {s1 : Int64} {M : mm_M} {q : (Unit ⊕ Nat) × mm_M} {o : mm_E} (h : mf_276_j156 s1 M = some q) (hA : mm_A (mm_Kr mm_wv) q o) : mp_276_156 L xs d s1 M o := by
  unfold mf_276_j156 at h
  obtain ⟨d, rfl⟩ := mm_d1 (n := 4) hd
  intro z1 z2 z3
  show mm_Runs L xs (d + 1) 276 (156, [some (.ref 84), z1, z2, z3], [.long s1, .ref 84], M) o
  refine mm_Runs.seq (l := [(156, .bipush 32, 2), (158, .iconst 1, 1)]) (S2 := (159, [some (.ref 84), z1, z2, z3], [.int (1 : Int32), .int (32 : Int32), .long s1, .ref 84], M)) (by decide +kernel) (hO := mm_own_276) rfl ?_
  refine mm_R_call (v := mm_wv) h hA (k2 := 249) (as := [.ref 84, .long s1, .int (32 : Int32), .int (1 : Int32)]) (r := []) rfl (fun _ => rfl) (fun q hq o ho => ms_249 (by omega) hq ho) (fun _ M1 h => ?_)
  show mm_Runs L xs (d + 1) 276 (162, [some (.ref 84), z1, z2, z3], [], M1) o
  refine mm_Runs.seq (l := [(162, .aload_n 0, 1)]) (S2 := (163, [some (.ref 84), z1, z2, z3], [.ref 84], M1)) (by decide +kernel) (hO := mm_own_276) rfl ?_
  refine mm_R_call (v := mm_wv) h hA (k2 := 248) (as := [.ref 84]) (r := []) rfl (fun _ => rfl) (fun q hq o ho => ms_248 (by omega) hq ho) (fun _ M2 h => ?_)
  show mm_Runs L xs (d + 1) 276 (166, [some (.ref 84), z1, z2, z3], [], M2) o
  cases h
  exact mm_R_retv rfl rfl hA
noncomputable def mf_276_j132 (v1 : Int32) (M : mm_M) : mm_O Unit := mm_B (mf_249 (25779555029136 : Int64) (48 : Int32) (1 : Int32) M) (fun _ M1 => if 0 < (M1.1 84 2) then (mf_276_j156 v1.toInt64 M1) else (mf_276_j156 (0 : Int64) M1))
set_option maxRecDepth 8000 in
set_option maxHeartbeats 4000000 in
theorem ms_276_j132 {L : Nat} {xs : Nat → Int32} {d : Nat} (hd : 5 ≤ d) {v1 : Int32} {M : mm_M} {q : (Unit ⊕ Nat) × mm_M} {o : mm_E} (h : mf_276_j132 v1 M = some q) (hA : mm_A (mm_Kr mm_wv) q o) : mp_276_132 L xs d v1 M o := by
  unfold mf_276_j132 at h
  obtain ⟨d, rfl⟩ := mm_d1 (n := 4) hd
  intro z2 z3
  show mm_Runs L xs (d + 1) 276 (132, [some (.ref 84), some (.int v1), z2, z3], [], M) o
  refine mm_Runs.seq (l := [(132, .aload_n 0, 1), (133, .ldc2_w 282, 3), (136, .bipush 48, 2), (138, .iconst 1, 1)]) (S2 := (139, [some (.ref 84), some (.int v1), z2, z3], [.int (1 : Int32), .int (48 : Int32), .long (25779555029136 : Int64), .ref 84], M)) (by decide +kernel) (hO := mm_own_276) rfl ?_
  refine mm_R_call (v := mm_wv) h hA (k2 := 249) (as := [.ref 84, .long (25779555029136 : Int64), .int (48 : Int32), .int (1 : Int32)]) (r := []) rfl (fun _ => rfl) (fun q hq o ho => ms_249 (by omega) hq ho) (fun _ M1 h => ?_)
  show mm_Runs L xs (d + 1) 276 (142, [some (.ref 84), some (.int v1), z2, z3], [], M1) o
  refine mm_Runs.seq (l := [(142, .aload_n 0, 1), (143, .aload_n 0, 1), (144, .getfield 91, 3)]) (S2 := (147, [some (.ref 84), some (.int v1), z2, z3], [.int (M1.1 84 2), .ref 84], M1)) (by decide +kernel) (hO := mm_own_276) rfl ?_
  refine mm_R_zle (t := 155) rfl rfl rfl (fun hc => ?_) (fun hc => ?_)
  · replace h := mm_ip hc h
    refine mm_Runs.seq (l := [(150, .iload_n 1, 1), (151, .i2l, 1), (152, .goto 4, 3)]) (S2 := (156, [some (.ref 84), some (.int v1), z2, z3], [.long v1.toInt64, .ref 84], M1)) (by decide +kernel) (hO := mm_own_276) rfl ?_
    exact (ms_276_j156 hd h hA : mp_276_156 L xs (d + 1) v1.toInt64 M1 o) (some (.int v1)) z2 z3
  · replace h := mm_iq hc h
    refine mm_Runs.seq (l := [(155, .lconst 0, 1)]) (S2 := (156, [some (.ref 84), some (.int v1), z2, z3], [.long (0 : Int64), .ref 84], M1)) (by decide +kernel) (hO := mm_own_276) rfl ?_
    exact (ms_276_j156 hd h hA : mp_276_156 L xs (d + 1) (0 : Int64) M1 o) (some (.int v1)) z2 z3
noncomputable def mf_276_j113 (v1 : Int32) (v2 : Int32) (v3 : Int32) (M : mm_M) : mm_O Unit := mm_B (mf_249 v3.toInt64 (24 : Int32) (1 : Int32) M) (fun _ M1 => mm_B (mf_277 v2 M1) (fun _ M2 => mm_B (mf_280 v2 M2) (fun _ M3 => mf_276_j132 v1 M3)))
set_option maxRecDepth 8000 in
set_option maxHeartbeats 4000000 in
theorem ms_276_j113 {L : Nat} {xs : Nat → Int32} {d : Nat} (hd : 5 ≤ d) {v1 : Int32} {v2 : Int32} {v3 : Int32} {M : mm_M} {q : (Unit ⊕ Nat) × mm_M} {o : mm_E} (h : mf_276_j113 v1 v2 v3 M = some q) (hA : mm_A (mm_Kr mm_wv) q o) : mp_276_113 L xs d v1 v2 v3 M o := by
  unfold mf_276_j113 at h
  obtain ⟨d, rfl⟩ := mm_d1 (n := 4) hd
  show mm_Runs L xs (d + 1) 276 (113, [some (.ref 84), some (.int v1), some (.int v2), some (.int v3)], [], M) o
  refine mm_Runs.seq (l := [(113, .aload_n 0, 1), (114, .iload_n 3, 1), (115, .i2l, 1), (116, .bipush 24, 2), (118, .iconst 1, 1)]) (S2 := (119, [some (.ref 84), some (.int v1), some (.int v2), some (.int v3)], [.int (1 : Int32), .int (24 : Int32), .long v3.toInt64, .ref 84], M)) (by decide +kernel) (hO := mm_own_276) rfl ?_
  refine mm_R_call (v := mm_wv) h hA (k2 := 249) (as := [.ref 84, .long v3.toInt64, .int (24 : Int32), .int (1 : Int32)]) (r := []) rfl (fun _ => rfl) (fun q hq o ho => ms_249 (by omega) hq ho) (fun _ M1 h => ?_)
  show mm_Runs L xs (d + 1) 276 (122, [some (.ref 84), some (.int v1), some (.int v2), some (.int v3)], [], M1) o
  refine mm_Runs.seq (l := [(122, .aload_n 0, 1), (123, .iload_n 2, 1)]) (S2 := (124, [some (.ref 84), some (.int v1), some (.int v2), some (.int v3)], [.int v2, .ref 84], M1)) (by decide +kernel) (hO := mm_own_276) rfl ?_
  refine mm_R_call (v := mm_wv) h hA (k2 := 277) (as := [.ref 84, .int v2]) (r := []) rfl (fun _ => rfl) (fun q hq o ho => ms_277 (by omega) hq ho) (fun _ M2 h => ?_)
  show mm_Runs L xs (d + 1) 276 (127, [some (.ref 84), some (.int v1), some (.int v2), some (.int v3)], [], M2) o
  refine mm_Runs.seq (l := [(127, .aload_n 0, 1), (128, .iload_n 2, 1)]) (S2 := (129, [some (.ref 84), some (.int v1), some (.int v2), some (.int v3)], [.int v2, .ref 84], M2)) (by decide +kernel) (hO := mm_own_276) rfl ?_
  refine mm_R_call (v := mm_wv) h hA (k2 := 280) (as := [.ref 84, .int v2]) (r := []) rfl (fun _ => rfl) (fun q hq o ho => ms_280 (by omega) hq ho) (fun _ M3 h => ?_)
  show mm_Runs L xs (d + 1) 276 (132, [some (.ref 84), some (.int v1), some (.int v2), some (.int v3)], [], M3) o
  exact (ms_276_j132 hd h hA : mp_276_132 L xs (d + 1) v1 M3 o) (some (.int v2)) (some (.int v3))
noncomputable def mf_276 (M : mm_M) : mm_O Unit := mm_B (mf_245 (66 : Int32) (mm_pi M 84 13 (1 : Int32))) (fun _ M1 => mm_B (mf_245 (90 : Int32) M1) (fun _ M2 => mm_B (mf_245 (104 : Int32) M2) (fun _ M3 => mm_B (mf_245 (49 : Int32) M3) (fun _ M4 => mm_B (mf_183 85 10000 (0 : Int32) (M4.1 84 2) M4) (fun r5 M6 => if 0 < (M6.1 84 2) then (mm_B (mf_275 M6) (fun r7 M8 => mm_B (mf_273 r7 M8) (fun _ M9 => mm_B (mf_249 (54156738319193 : Int64) (48 : Int32) (1 : Int32) M9) (fun _ M10 => mm_B (mf_249 r5.toInt64 (32 : Int32) (1 : Int32) M10) (fun _ M11 => mm_B (mf_249 (0 : Int64) (1 : Int32) (1 : Int32) M11) (fun _ M12 => mm_B (mf_276_L87 r5 r7 (0 : Int32) M12) (fun r14 M13 => mf_276_j113 r5 r7 r14 M13))))))) else (mf_276_j132 r5 M6))))))
set_option maxRecDepth 8000 in
set_option maxHeartbeats 4000000 in
theorem ms_276 {L : Nat} {xs : Nat → Int32} {d : Nat} (hd : 5 ≤ d) {M : mm_M} {q : (Unit ⊕ Nat) × mm_M} {o : mm_E} (h : mf_276 M = some q) (hA : mm_A (mm_Kr mm_wv) q o) : mm_Runs L xs d 276 (0, mm_ent (mm_ml 276) [.ref 84], [], M) o := by
  unfold mf_276 at h
  obtain ⟨d, rfl⟩ := mm_d1 (n := 4) hd
  show mm_Runs L xs (d + 1) 276 (0, [some (.ref 84), none, none, none], [], M) o
  refine mm_Runs.seq (l := [(0, .aload_n 0, 1), (1, .iconst 1, 1), (2, .putfield 178, 3), (5, .aload_n 0, 1), (6, .bipush 66, 2)]) (S2 := (8, [some (.ref 84), none, none, none], [.int (66 : Int32), .ref 84], (mm_pi M 84 13 (1 : Int32)))) (by decide +kernel) (hO := mm_own_276) rfl ?_
  refine mm_R_call (v := mm_wv) h hA (k2 := 245) (as := [.ref 84, .int (66 : Int32)]) (r := []) rfl (fun _ => rfl) (fun q hq o ho => ms_245 (by omega) hq ho) (fun _ M1 h => ?_)
  show mm_Runs L xs (d + 1) 276 (11, [some (.ref 84), none, none, none], [], M1) o
  refine mm_Runs.seq (l := [(11, .aload_n 0, 1), (12, .bipush 90, 2)]) (S2 := (14, [some (.ref 84), none, none, none], [.int (90 : Int32), .ref 84], M1)) (by decide +kernel) (hO := mm_own_276) rfl ?_
  refine mm_R_call (v := mm_wv) h hA (k2 := 245) (as := [.ref 84, .int (90 : Int32)]) (r := []) rfl (fun _ => rfl) (fun q hq o ho => ms_245 (by omega) hq ho) (fun _ M2 h => ?_)
  show mm_Runs L xs (d + 1) 276 (17, [some (.ref 84), none, none, none], [], M2) o
  refine mm_Runs.seq (l := [(17, .aload_n 0, 1), (18, .bipush 104, 2)]) (S2 := (20, [some (.ref 84), none, none, none], [.int (104 : Int32), .ref 84], M2)) (by decide +kernel) (hO := mm_own_276) rfl ?_
  refine mm_R_call (v := mm_wv) h hA (k2 := 245) (as := [.ref 84, .int (104 : Int32)]) (r := []) rfl (fun _ => rfl) (fun q hq o ho => ms_245 (by omega) hq ho) (fun _ M3 h => ?_)
  show mm_Runs L xs (d + 1) 276 (23, [some (.ref 84), none, none, none], [], M3) o
  refine mm_Runs.seq (l := [(23, .aload_n 0, 1), (24, .bipush 49, 2)]) (S2 := (26, [some (.ref 84), none, none, none], [.int (49 : Int32), .ref 84], M3)) (by decide +kernel) (hO := mm_own_276) rfl ?_
  refine mm_R_call (v := mm_wv) h hA (k2 := 245) (as := [.ref 84, .int (49 : Int32)]) (r := []) rfl (fun _ => rfl) (fun q hq o ho => ms_245 (by omega) hq ho) (fun _ M4 h => ?_)
  show mm_Runs L xs (d + 1) 276 (29, [some (.ref 84), none, none, none], [], M4) o
  refine mm_Runs.seq (l := [(29, .aload_n 0, 1), (30, .getfield 7, 3), (33, .iconst 0, 1), (34, .aload_n 0, 1), (35, .getfield 91, 3)]) (S2 := (38, [some (.ref 84), none, none, none], [.int (M4.1 84 2), .int (0 : Int32), .ref 85], M4)) (by decide +kernel) (hO := mm_own_276) rfl ?_
  refine mm_R_call (v := mm_wi) h hA (k2 := 183) (as := [.ref 85, .int (0 : Int32), .int (M4.1 84 2)]) (r := []) rfl (fun _ => rfl) (fun q hq o ho => ms_183 rfl (by omega) hq ho) (fun r5 M6 h => ?_)
  show mm_Runs L xs (d + 1) 276 (41, [some (.ref 84), none, none, none], [.int r5], M6) o
  refine mm_Runs.seq (l := [(41, .istore_n 1, 1), (42, .aload_n 0, 1), (43, .getfield 91, 3)]) (S2 := (46, [some (.ref 84), some (.int r5), none, none], [.int (M6.1 84 2)], M6)) (by decide +kernel) (hO := mm_own_276) rfl ?_
  refine mm_R_zle (t := 132) rfl rfl rfl (fun hc => ?_) (fun hc => ?_)
  · replace h := mm_ip hc h
    refine mm_Runs.seq (l := [(49, .aload_n 0, 1)]) (S2 := (50, [some (.ref 84), some (.int r5), none, none], [.ref 84], M6)) (by decide +kernel) (hO := mm_own_276) rfl ?_
    refine mm_R_call (v := mm_wi) h hA (k2 := 275) (as := [.ref 84]) (r := []) rfl (fun _ => rfl) (fun q hq o ho => ms_275 (by omega) hq ho) (fun r7 M8 h => ?_)
    show mm_Runs L xs (d + 1) 276 (53, [some (.ref 84), some (.int r5), none, none], [.int r7], M8) o
    refine mm_Runs.seq (l := [(53, .istore_n 2, 1), (54, .aload_n 0, 1), (55, .iload_n 2, 1)]) (S2 := (56, [some (.ref 84), some (.int r5), some (.int r7), none], [.int r7, .ref 84], M8)) (by decide +kernel) (hO := mm_own_276) rfl ?_
    refine mm_R_call (v := mm_wv) h hA (k2 := 273) (as := [.ref 84, .int r7]) (r := []) rfl (fun _ => rfl) (fun q hq o ho => ms_273 (by omega) hq ho) (fun _ M9 h => ?_)
    show mm_Runs L xs (d + 1) 276 (59, [some (.ref 84), some (.int r5), some (.int r7), none], [], M9) o
    refine mm_Runs.seq (l := [(59, .aload_n 0, 1), (60, .ldc2_w 284, 3), (63, .bipush 48, 2), (65, .iconst 1, 1)]) (S2 := (66, [some (.ref 84), some (.int r5), some (.int r7), none], [.int (1 : Int32), .int (48 : Int32), .long (54156738319193 : Int64), .ref 84], M9)) (by decide +kernel) (hO := mm_own_276) rfl ?_
    refine mm_R_call (v := mm_wv) h hA (k2 := 249) (as := [.ref 84, .long (54156738319193 : Int64), .int (48 : Int32), .int (1 : Int32)]) (r := []) rfl (fun _ => rfl) (fun q hq o ho => ms_249 (by omega) hq ho) (fun _ M10 h => ?_)
    show mm_Runs L xs (d + 1) 276 (69, [some (.ref 84), some (.int r5), some (.int r7), none], [], M10) o
    refine mm_Runs.seq (l := [(69, .aload_n 0, 1), (70, .iload_n 1, 1), (71, .i2l, 1), (72, .bipush 32, 2), (74, .iconst 1, 1)]) (S2 := (75, [some (.ref 84), some (.int r5), some (.int r7), none], [.int (1 : Int32), .int (32 : Int32), .long r5.toInt64, .ref 84], M10)) (by decide +kernel) (hO := mm_own_276) rfl ?_
    refine mm_R_call (v := mm_wv) h hA (k2 := 249) (as := [.ref 84, .long r5.toInt64, .int (32 : Int32), .int (1 : Int32)]) (r := []) rfl (fun _ => rfl) (fun q hq o ho => ms_249 (by omega) hq ho) (fun _ M11 h => ?_)
    show mm_Runs L xs (d + 1) 276 (78, [some (.ref 84), some (.int r5), some (.int r7), none], [], M11) o
    refine mm_Runs.seq (l := [(78, .aload_n 0, 1), (79, .lconst 0, 1), (80, .iconst 1, 1), (81, .iconst 1, 1)]) (S2 := (82, [some (.ref 84), some (.int r5), some (.int r7), none], [.int (1 : Int32), .int (1 : Int32), .long (0 : Int64), .ref 84], M11)) (by decide +kernel) (hO := mm_own_276) rfl ?_
    refine mm_R_call (v := mm_wv) h hA (k2 := 249) (as := [.ref 84, .long (0 : Int64), .int (1 : Int32), .int (1 : Int32)]) (r := []) rfl (fun _ => rfl) (fun q hq o ho => ms_249 (by omega) hq ho) (fun _ M12 h => ?_)
    show mm_Runs L xs (d + 1) 276 (85, [some (.ref 84), some (.int r5), some (.int r7), none], [], M12) o
    refine mm_Runs.seq (l := [(85, .iconst 0, 1), (86, .istore_n 3, 1)]) (S2 := (87, [some (.ref 84), some (.int r5), some (.int r7), some (.int (0 : Int32))], [], M12)) (by decide +kernel) (hO := mm_own_276) rfl ?_
    have hp : mp_276_87 L xs (d + 1) r5 r7 (0 : Int32) M12 o := by
      refine ms_276_L87 hd h hA (fun r14 M13 h => ?_)
      show mm_Runs L xs (d + 1) 276 (113, [some (.ref 84), some (.int r5), some (.int r7), some (.int r14)], [], M13) o
      exact (ms_276_j113 hd h hA : mp_276_113 L xs (d + 1) r5 r7 r14 M13 o)
    exact hp
  · replace h := mm_iq hc h
    exact (ms_276_j132 hd h hA : mp_276_132 L xs (d + 1) r5 M6 o) none none
-- 281: PlainPacksModel.carry()V (depth 0)
theorem mm_own_281 : mm_own 281 = 12 := rfl
def mp_281_30 (L : Nat) (xs : Nat → Int32) (d : Nat) (v1 : Int32) (M : mm_M) (o : mm_E) : Prop := mm_Runs L xs d 281 (30, [some (.ref 84), some (.int v1)], [], M) o
def mp_281_59 (L : Nat) (xs : Nat → Int32) (d : Nat) (v1 : Int32) (M : mm_M) (o : mm_E) : Prop := mm_Runs L xs d 281 (59, [some (.ref 84), some (.int v1)], [], M) o
noncomputable def mf_281_b30 (v1 : Int32) (M : mm_M) : mm_O ((Int32) ⊕ (Int32)) := if v1 < 0 then (some (.inl (.inr v1), M)) else (if mm_in v1 12600 then if (M.1 102 v1.toNatClampNeg) = (255 : Int32) then (if mm_in v1 12600 then some (.inl (.inl (v1 + (-1 : Int32))), (mm_pi M 102 v1.toNatClampNeg (0 : Int32))) else none) else (some (.inl (.inr v1), M)) else none)
noncomputable def mf_281_L30 (s : Int32) (M : mm_M) : mm_O (Int32) := mm_L (fun s M => mf_281_b30 s M) s M
set_option maxRecDepth 8000 in
set_option maxHeartbeats 4000000 in
theorem ms_281_b30 {L : Nat} {xs : Nat → Int32} {d : Nat} (hd : 0 ≤ d) {v1 : Int32} {M : mm_M} {q : (((Int32) ⊕ (Int32)) ⊕ Nat) × mm_M} {o : mm_E} (h : mf_281_b30 v1 M = some q) (hA : mm_A (mm_K2 (fun s M o => mp_281_30 L xs (d) s M o) (fun r M o => mp_281_59 L xs (d) r M o)) q o) : mp_281_30 L xs d v1 M o := by
  unfold mf_281_b30 at h
  show mm_Runs L xs (d) 281 (30, [some (.ref 84), some (.int v1)], [], M) o
  refine mm_Runs.seq (l := [(30, .iload_n 1, 1)]) (S2 := (31, [some (.ref 84), some (.int v1)], [.int v1], M)) (by decide +kernel) (hO := mm_own_281) rfl ?_
  refine mm_R_zlt (t := 59) rfl rfl rfl (fun hc => ?_) (fun hc => ?_)
  · replace h := mm_ip hc h
    cases h
    exact (show mp_281_59 L xs (d) v1 M o from hA)
  · replace h := mm_iq hc h
    refine mm_Runs.seq (l := [(34, .aload_n 0, 1), (35, .getfield 63, 3), (38, .iload_n 1, 1)]) (S2 := (39, [some (.ref 84), some (.int v1)], [.int v1, .ref 102], M)) (by decide +kernel) (hO := mm_own_281) rfl ?_
    obtain ⟨hb, h⟩ := mm_gd h
    refine mm_R_iald rfl rfl hb ?_
    refine mm_Runs.seq (l := [(40, .sipush 255, 3)]) (S2 := (43, [some (.ref 84), some (.int v1)], [.int (255 : Int32), .int (M.1 102 v1.toNatClampNeg)], M)) (by decide +kernel) (hO := mm_own_281) rfl ?_
    refine mm_R_ine (t := 59) rfl rfl rfl (fun hc => ?_) (fun hc => ?_)
    · replace h := mm_ip hc h
      refine mm_Runs.seq (l := [(46, .aload_n 0, 1), (47, .getfield 63, 3), (50, .iload_n 1, 1), (51, .iconst 0, 1)]) (S2 := (52, [some (.ref 84), some (.int v1)], [.int (0 : Int32), .int v1, .ref 102], M)) (by decide +kernel) (hO := mm_own_281) rfl ?_
      obtain ⟨hb, h⟩ := mm_gd h
      refine mm_R_iast rfl rfl hb ?_
      refine mm_Runs.seq (l := [(53, .iinc 1 (-1), 3), (56, .goto (-26), 3)]) (S2 := (30, [some (.ref 84), some (.int (v1 + (-1 : Int32)))], [], (mm_pi M 102 v1.toNatClampNeg (0 : Int32)))) (by decide +kernel) (hO := mm_own_281) rfl ?_
      cases h
      exact (show mp_281_30 L xs (d) (v1 + (-1 : Int32)) (mm_pi M 102 v1.toNatClampNeg (0 : Int32)) o from hA)
    · replace h := mm_iq hc h
      cases h
      exact (show mp_281_59 L xs (d) v1 M o from hA)
theorem ms_281_L30 {L : Nat} {xs : Nat → Int32} {d : Nat} (hd : 0 ≤ d) {v1 : Int32} {β : Type} {K : β → mm_M → mm_E → Prop} {F : (Int32) → mm_M → mm_O β} {M : mm_M} {q : (β ⊕ Nat) × mm_M} {o : mm_E} (h : mm_B (mf_281_L30 v1 M) F = some q) (hA : mm_A K q o) (hx : ∀ (r : (Int32)) (M2 : mm_M), F r M2 = some q → (fun r M o => mp_281_59 L xs (d) r M o) r M2 o) : mp_281_30 L xs d v1 M o := mm_R_loop (s := v1) (M := M) (P := (fun s M o => mp_281_30 L xs (d) s M o)) (X := (fun r M o => mp_281_59 L xs (d) r M o)) h hA (fun s M q hq hA => ms_281_b30 hd hq hA) hx
noncomputable def mf_281_j59 (v1 : Int32) (M : mm_M) : mm_O Unit := if mm_in v1 12600 then if mm_in v1 12600 then some (.inl (), (mm_pi M 102 v1.toNatClampNeg ((M.1 102 v1.toNatClampNeg) + (1 : Int32)))) else none else none
set_option maxRecDepth 8000 in
set_option maxHeartbeats 4000000 in
theorem ms_281_j59 {L : Nat} {xs : Nat → Int32} {d : Nat} (hd : 0 ≤ d) {v1 : Int32} {M : mm_M} {q : (Unit ⊕ Nat) × mm_M} {o : mm_E} (h : mf_281_j59 v1 M = some q) (hA : mm_A (mm_Kr mm_wv) q o) : mp_281_59 L xs d v1 M o := by
  unfold mf_281_j59 at h
  show mm_Runs L xs (d) 281 (59, [some (.ref 84), some (.int v1)], [], M) o
  refine mm_Runs.seq (l := [(59, .aload_n 0, 1), (60, .getfield 63, 3), (63, .iload_n 1, 1), (64, .dup2, 1)]) (S2 := (65, [some (.ref 84), some (.int v1)], [.int v1, .ref 102, .int v1, .ref 102], M)) (by decide +kernel) (hO := mm_own_281) rfl ?_
  obtain ⟨hb, h⟩ := mm_gd h
  refine mm_R_iald rfl rfl hb ?_
  refine mm_Runs.seq (l := [(66, .iconst 1, 1), (67, .iadd, 1)]) (S2 := (68, [some (.ref 84), some (.int v1)], [.int ((M.1 102 v1.toNatClampNeg) + (1 : Int32)), .int v1, .ref 102], M)) (by decide +kernel) (hO := mm_own_281) rfl ?_
  obtain ⟨hb, h⟩ := mm_gd h
  refine mm_R_iast rfl rfl hb ?_
  cases h
  exact mm_R_retv rfl rfl hA
noncomputable def mf_281 (M : mm_M) : mm_O Unit := if (4294967295 : Int64) < (M.2.1 84 53) then (mm_B (mf_281_L30 ((M.1 84 54) - (1 : Int32)) (mm_pl M 84 53 ((M.2.1 84 53) &&& (4294967295 : Int64)))) (fun r2 M1 => mf_281_j59 r2 M1)) else (some (.inl (), M))
set_option maxRecDepth 8000 in
set_option maxHeartbeats 4000000 in
theorem ms_281 {L : Nat} {xs : Nat → Int32} {d : Nat} (hd : 0 ≤ d) {M : mm_M} {q : (Unit ⊕ Nat) × mm_M} {o : mm_E} (h : mf_281 M = some q) (hA : mm_A (mm_Kr mm_wv) q o) : mm_Runs L xs d 281 (0, mm_ent (mm_ml 281) [.ref 84], [], M) o := by
  unfold mf_281 at h
  show mm_Runs L xs (d) 281 (0, [some (.ref 84), none], [], M) o
  refine mm_Runs.seq (l := [(0, .aload_n 0, 1), (1, .getfield 519, 3), (4, .ldc2_w 272, 3)]) (S2 := (7, [some (.ref 84), none], [.long (4294967295 : Int64), .long (M.2.1 84 53)], M)) (by decide +kernel) (hO := mm_own_281) rfl ?_
  refine mm_R_lle (t := 69) rfl rfl rfl rfl (fun hc => ?_) (fun hc => ?_)
  · replace h := mm_ip hc h
    refine mm_Runs.seq (l := [(11, .aload_n 0, 1), (12, .dup, 1), (13, .getfield 519, 3), (16, .ldc2_w 272, 3), (19, .land, 1), (20, .putfield 519, 3), (23, .aload_n 0, 1), (24, .getfield 522, 3), (27, .iconst 1, 1), (28, .isub, 1), (29, .istore_n 1, 1)]) (S2 := (30, [some (.ref 84), some (.int ((M.1 84 54) - (1 : Int32)))], [], (mm_pl M 84 53 ((M.2.1 84 53) &&& (4294967295 : Int64))))) (by decide +kernel) (hO := mm_own_281) rfl ?_
    have hp : mp_281_30 L xs (d) ((M.1 84 54) - (1 : Int32)) (mm_pl M 84 53 ((M.2.1 84 53) &&& (4294967295 : Int64))) o := by
      refine ms_281_L30 hd h hA (fun r2 M1 h => ?_)
      show mm_Runs L xs (d) 281 (59, [some (.ref 84), some (.int r2)], [], M1) o
      exact (ms_281_j59 hd h hA : mp_281_59 L xs (d) r2 M1 o)
    exact hp
  · replace h := mm_iq hc h
    cases h
    exact mm_R_retv rfl rfl hA
-- 282: PlainPacksModel.tell(II)V (depth 1)
theorem mm_own_282 : mm_own 282 = 12 := rfl
def mp_282_93 (L : Nat) (xs : Nat → Int32) (d : Nat) (M : mm_M) (o : mm_E) : Prop := ∀ z1 z2 z3 z4 : Option Value, mm_Runs L xs d 282 (93, [some (.ref 84), z1, z2, z3, z4], [], M) o
noncomputable def mf_282_j93 (M : mm_M) : mm_O Unit := if (M.2.1 84 33) < (16777216 : Int64) then (if mm_in (M.1 84 54) 12600 then some (.inl (), (mm_pl (mm_pi (mm_pi (mm_pl M 84 33 (mm_lshl (M.2.1 84 33) (8 : Int32))) 102 (M.1 84 54).toNatClampNeg (mm_lush (M.2.1 84 53) (24 : Int32)).toInt32) 84 54 ((M.1 84 54) + (1 : Int32))) 84 53 ((mm_lshl (M.2.1 84 53) (8 : Int32)) &&& (4294967295 : Int64)))) else none) else (some (.inl (), M))
set_option maxRecDepth 8000 in
set_option maxHeartbeats 4000000 in
theorem ms_282_j93 {L : Nat} {xs : Nat → Int32} {d : Nat} (hd : 1 ≤ d) {M : mm_M} {q : (Unit ⊕ Nat) × mm_M} {o : mm_E} (h : mf_282_j93 M = some q) (hA : mm_A (mm_Kr mm_wv) q o) : mp_282_93 L xs d M o := by
  unfold mf_282_j93 at h
  obtain ⟨d, rfl⟩ := mm_d1 (n := 0) hd
  intro z1 z2 z3 z4
  show mm_Runs L xs (d + 1) 282 (93, [some (.ref 84), z1, z2, z3, z4], [], M) o
  refine mm_Runs.seq (l := [(93, .aload_n 0, 1), (94, .getfield 319, 3), (97, .ldc2_w 323, 3)]) (S2 := (100, [some (.ref 84), z1, z2, z3, z4], [.long (16777216 : Int64), .long (M.2.1 84 33)], M)) (by decide +kernel) (hO := mm_own_282) rfl ?_
  refine mm_R_lge (t := 157) rfl rfl rfl rfl (fun hc => ?_) (fun hc => ?_)
  · replace h := mm_ip hc h
    refine mm_Runs.seq (l := [(104, .aload_n 0, 1), (105, .dup, 1), (106, .getfield 319, 3), (109, .bipush 8, 2), (111, .lshl, 1), (112, .putfield 319, 3), (115, .aload_n 0, 1), (116, .getfield 63, 3), (119, .aload_n 0, 1), (120, .getfield 522, 3), (123, .aload_n 0, 1), (124, .getfield 519, 3), (127, .bipush 24, 2), (129, .lushr, 1), (130, .l2i, 1)]) (S2 := (131, [some (.ref 84), z1, z2, z3, z4], [.int (mm_lush (M.2.1 84 53) (24 : Int32)).toInt32, .int (M.1 84 54), .ref 102], (mm_pl M 84 33 (mm_lshl (M.2.1 84 33) (8 : Int32))))) (by decide +kernel) (hO := mm_own_282) rfl ?_
    obtain ⟨hb, h⟩ := mm_gd h
    refine mm_R_iast rfl rfl hb ?_
    refine mm_Runs.seq (l := [(132, .aload_n 0, 1), (133, .dup, 1), (134, .getfield 522, 3), (137, .iconst 1, 1), (138, .iadd, 1), (139, .putfield 522, 3), (142, .aload_n 0, 1), (143, .aload_n 0, 1), (144, .getfield 519, 3), (147, .bipush 8, 2), (149, .lshl, 1), (150, .ldc2_w 272, 3), (153, .land, 1), (154, .putfield 519, 3)]) (S2 := (157, [some (.ref 84), z1, z2, z3, z4], [], (mm_pl (mm_pi (mm_pi (mm_pl M 84 33 (mm_lshl (M.2.1 84 33) (8 : Int32))) 102 (M.1 84 54).toNatClampNeg (mm_lush (M.2.1 84 53) (24 : Int32)).toInt32) 84 54 ((M.1 84 54) + (1 : Int32))) 84 53 ((mm_lshl (M.2.1 84 53) (8 : Int32)) &&& (4294967295 : Int64))))) (by decide +kernel) (hO := mm_own_282) rfl ?_
    cases h
    exact mm_R_retv rfl rfl hA
  · replace h := mm_iq hc h
    cases h
    exact mm_R_retv rfl rfl hA
noncomputable def mf_282 (v1 : Int32) (v2 : Int32) (M : mm_M) : mm_O Unit := if mm_in v1 14540 then if v2 = 0 then (if mm_in v1 14540 then if mm_in v1 14540 then if mm_in v1 14540 then mf_282_j93 (mm_pi (mm_pl M 84 33 (((M.2.1 84 33) / (2048 : Int64)) * (M.1 98 v1.toNatClampNeg).toInt64)) 98 v1.toNatClampNeg ((M.1 98 v1.toNatClampNeg) + (((2048 : Int32) - (M.1 98 v1.toNatClampNeg)) / (32 : Int32)))) else none else none else none) else (if mm_in v1 14540 then if mm_in v1 14540 then if mm_in v1 14540 then mm_B (mf_281 (mm_pi (mm_pl (mm_pl M 84 53 ((M.2.1 84 53) + (((M.2.1 84 33) / (2048 : Int64)) * (M.1 98 v1.toNatClampNeg).toInt64))) 84 33 ((M.2.1 84 33) - (((M.2.1 84 33) / (2048 : Int64)) * (M.1 98 v1.toNatClampNeg).toInt64))) 98 v1.toNatClampNeg ((M.1 98 v1.toNatClampNeg) - ((M.1 98 v1.toNatClampNeg) / (32 : Int32))))) (fun _ M1 => mf_282_j93 M1) else none else none else none) else none
set_option maxRecDepth 8000 in
set_option maxHeartbeats 4000000 in
theorem ms_282 {L : Nat} {xs : Nat → Int32} {d : Nat} (hd : 1 ≤ d) {v1 : Int32} {v2 : Int32} {M : mm_M} {q : (Unit ⊕ Nat) × mm_M} {o : mm_E} (h : mf_282 v1 v2 M = some q) (hA : mm_A (mm_Kr mm_wv) q o) : mm_Runs L xs d 282 (0, mm_ent (mm_ml 282) [.ref 84, .int v1, .int v2], [], M) o := by
  unfold mf_282 at h
  obtain ⟨d, rfl⟩ := mm_d1 (n := 0) hd
  show mm_Runs L xs (d + 1) 282 (0, [some (.ref 84), some (.int v1), some (.int v2), none, none], [], M) o
  refine mm_Runs.seq (l := [(0, .aload_n 0, 1), (1, .getfield 319, 3), (4, .ldc2_w 328, 3), (7, .ldiv, 1), (8, .aload_n 0, 1), (9, .getfield 50, 3), (12, .iload_n 1, 1)]) (S2 := (13, [some (.ref 84), some (.int v1), some (.int v2), none, none], [.int v1, .ref 98, .long ((M.2.1 84 33) / (2048 : Int64))], M)) (by decide +kernel) (hO := mm_own_282) rfl ?_
  obtain ⟨hb, h⟩ := mm_gd h
  refine mm_R_iald rfl rfl hb ?_
  refine mm_Runs.seq (l := [(14, .i2l, 1), (15, .lmul, 1), (16, .lstore_n 3, 1), (17, .iload_n 2, 1)]) (S2 := (18, [some (.ref 84), some (.int v1), some (.int v2), some (.long (((M.2.1 84 33) / (2048 : Int64)) * (M.1 98 v1.toNatClampNeg).toInt64)), none], [.int v2], M)) (by decide +kernel) (hO := mm_own_282) rfl ?_
  refine mm_R_zne (t := 51) rfl rfl rfl (fun hc => ?_) (fun hc => ?_)
  · replace h := mm_ip hc h
    refine mm_Runs.seq (l := [(21, .aload_n 0, 1), (22, .lload_n 3, 1), (23, .putfield 319, 3), (26, .aload_n 0, 1), (27, .getfield 50, 3), (30, .iload_n 1, 1), (31, .dup2, 1)]) (S2 := (32, [some (.ref 84), some (.int v1), some (.int v2), some (.long (((M.2.1 84 33) / (2048 : Int64)) * (M.1 98 v1.toNatClampNeg).toInt64)), none], [.int v1, .ref 98, .int v1, .ref 98], (mm_pl M 84 33 (((M.2.1 84 33) / (2048 : Int64)) * (M.1 98 v1.toNatClampNeg).toInt64)))) (by decide +kernel) (hO := mm_own_282) rfl ?_
    obtain ⟨hb, h⟩ := mm_gd h
    refine mm_R_iald rfl rfl hb ?_
    refine mm_Runs.seq (l := [(33, .sipush 2048, 3), (36, .aload_n 0, 1), (37, .getfield 50, 3), (40, .iload_n 1, 1)]) (S2 := (41, [some (.ref 84), some (.int v1), some (.int v2), some (.long (((M.2.1 84 33) / (2048 : Int64)) * (M.1 98 v1.toNatClampNeg).toInt64)), none], [.int v1, .ref 98, .int (2048 : Int32), .int (M.1 98 v1.toNatClampNeg), .int v1, .ref 98], (mm_pl M 84 33 (((M.2.1 84 33) / (2048 : Int64)) * (M.1 98 v1.toNatClampNeg).toInt64)))) (by decide +kernel) (hO := mm_own_282) rfl ?_
    obtain ⟨hb, h⟩ := mm_gd h
    refine mm_R_iald rfl rfl hb ?_
    refine mm_Runs.seq (l := [(42, .isub, 1), (43, .bipush 32, 2), (45, .idiv, 1), (46, .iadd, 1)]) (S2 := (47, [some (.ref 84), some (.int v1), some (.int v2), some (.long (((M.2.1 84 33) / (2048 : Int64)) * (M.1 98 v1.toNatClampNeg).toInt64)), none], [.int ((M.1 98 v1.toNatClampNeg) + (((2048 : Int32) - (M.1 98 v1.toNatClampNeg)) / (32 : Int32))), .int v1, .ref 98], (mm_pl M 84 33 (((M.2.1 84 33) / (2048 : Int64)) * (M.1 98 v1.toNatClampNeg).toInt64)))) (by decide +kernel) (hO := mm_own_282) rfl ?_
    obtain ⟨hb, h⟩ := mm_gd h
    refine mm_R_iast rfl rfl hb ?_
    refine mm_Runs.seq (l := [(48, .goto 45, 3)]) (S2 := (93, [some (.ref 84), some (.int v1), some (.int v2), some (.long (((M.2.1 84 33) / (2048 : Int64)) * (M.1 98 v1.toNatClampNeg).toInt64)), none], [], (mm_pi (mm_pl M 84 33 (((M.2.1 84 33) / (2048 : Int64)) * (M.1 98 v1.toNatClampNeg).toInt64)) 98 v1.toNatClampNeg ((M.1 98 v1.toNatClampNeg) + (((2048 : Int32) - (M.1 98 v1.toNatClampNeg)) / (32 : Int32)))))) (by decide +kernel) (hO := mm_own_282) rfl ?_
    exact (ms_282_j93 hd h hA : mp_282_93 L xs (d + 1) (mm_pi (mm_pl M 84 33 (((M.2.1 84 33) / (2048 : Int64)) * (M.1 98 v1.toNatClampNeg).toInt64)) 98 v1.toNatClampNeg ((M.1 98 v1.toNatClampNeg) + (((2048 : Int32) - (M.1 98 v1.toNatClampNeg)) / (32 : Int32)))) o) (some (.int v1)) (some (.int v2)) (some (.long (((M.2.1 84 33) / (2048 : Int64)) * (M.1 98 v1.toNatClampNeg).toInt64))) none
  · replace h := mm_iq hc h
    refine mm_Runs.seq (l := [(51, .aload_n 0, 1), (52, .dup, 1), (53, .getfield 519, 3), (56, .lload_n 3, 1), (57, .ladd, 1), (58, .putfield 519, 3), (61, .aload_n 0, 1), (62, .dup, 1), (63, .getfield 319, 3), (66, .lload_n 3, 1), (67, .lsub, 1), (68, .putfield 319, 3), (71, .aload_n 0, 1), (72, .getfield 50, 3), (75, .iload_n 1, 1), (76, .dup2, 1)]) (S2 := (77, [some (.ref 84), some (.int v1), some (.int v2), some (.long (((M.2.1 84 33) / (2048 : Int64)) * (M.1 98 v1.toNatClampNeg).toInt64)), none], [.int v1, .ref 98, .int v1, .ref 98], (mm_pl (mm_pl M 84 53 ((M.2.1 84 53) + (((M.2.1 84 33) / (2048 : Int64)) * (M.1 98 v1.toNatClampNeg).toInt64))) 84 33 ((M.2.1 84 33) - (((M.2.1 84 33) / (2048 : Int64)) * (M.1 98 v1.toNatClampNeg).toInt64))))) (by decide +kernel) (hO := mm_own_282) rfl ?_
    obtain ⟨hb, h⟩ := mm_gd h
    refine mm_R_iald rfl rfl hb ?_
    refine mm_Runs.seq (l := [(78, .aload_n 0, 1), (79, .getfield 50, 3), (82, .iload_n 1, 1)]) (S2 := (83, [some (.ref 84), some (.int v1), some (.int v2), some (.long (((M.2.1 84 33) / (2048 : Int64)) * (M.1 98 v1.toNatClampNeg).toInt64)), none], [.int v1, .ref 98, .int (M.1 98 v1.toNatClampNeg), .int v1, .ref 98], (mm_pl (mm_pl M 84 53 ((M.2.1 84 53) + (((M.2.1 84 33) / (2048 : Int64)) * (M.1 98 v1.toNatClampNeg).toInt64))) 84 33 ((M.2.1 84 33) - (((M.2.1 84 33) / (2048 : Int64)) * (M.1 98 v1.toNatClampNeg).toInt64))))) (by decide +kernel) (hO := mm_own_282) rfl ?_
    obtain ⟨hb, h⟩ := mm_gd h
    refine mm_R_iald rfl rfl hb ?_
    refine mm_Runs.seq (l := [(84, .bipush 32, 2), (86, .idiv, 1), (87, .isub, 1)]) (S2 := (88, [some (.ref 84), some (.int v1), some (.int v2), some (.long (((M.2.1 84 33) / (2048 : Int64)) * (M.1 98 v1.toNatClampNeg).toInt64)), none], [.int ((M.1 98 v1.toNatClampNeg) - ((M.1 98 v1.toNatClampNeg) / (32 : Int32))), .int v1, .ref 98], (mm_pl (mm_pl M 84 53 ((M.2.1 84 53) + (((M.2.1 84 33) / (2048 : Int64)) * (M.1 98 v1.toNatClampNeg).toInt64))) 84 33 ((M.2.1 84 33) - (((M.2.1 84 33) / (2048 : Int64)) * (M.1 98 v1.toNatClampNeg).toInt64))))) (by decide +kernel) (hO := mm_own_282) rfl ?_
    obtain ⟨hb, h⟩ := mm_gd h
    refine mm_R_iast rfl rfl hb ?_
    refine mm_Runs.seq (l := [(89, .aload_n 0, 1)]) (S2 := (90, [some (.ref 84), some (.int v1), some (.int v2), some (.long (((M.2.1 84 33) / (2048 : Int64)) * (M.1 98 v1.toNatClampNeg).toInt64)), none], [.ref 84], (mm_pi (mm_pl (mm_pl M 84 53 ((M.2.1 84 53) + (((M.2.1 84 33) / (2048 : Int64)) * (M.1 98 v1.toNatClampNeg).toInt64))) 84 33 ((M.2.1 84 33) - (((M.2.1 84 33) / (2048 : Int64)) * (M.1 98 v1.toNatClampNeg).toInt64))) 98 v1.toNatClampNeg ((M.1 98 v1.toNatClampNeg) - ((M.1 98 v1.toNatClampNeg) / (32 : Int32)))))) (by decide +kernel) (hO := mm_own_282) rfl ?_
    refine mm_R_call (v := mm_wv) h hA (k2 := 281) (as := [.ref 84]) (r := []) rfl (fun _ => rfl) (fun q hq o ho => ms_281 (by omega) hq ho) (fun _ M1 h => ?_)
    show mm_Runs L xs (d + 1) 282 (93, [some (.ref 84), some (.int v1), some (.int v2), some (.long (((M.2.1 84 33) / (2048 : Int64)) * (M.1 98 v1.toNatClampNeg).toInt64)), none], [], M1) o
    exact (ms_282_j93 hd h hA : mp_282_93 L xs (d + 1) M1 o) (some (.int v1)) (some (.int v2)) (some (.long (((M.2.1 84 33) / (2048 : Int64)) * (M.1 98 v1.toNatClampNeg).toInt64))) none
-- 283: PlainPacksModel.packChances()V (depth 2)
theorem mm_own_283 : mm_own 283 = 12 := rfl
def mp_283_27 (L : Nat) (xs : Nat → Int32) (d : Nat) (v1 : Int32) (M : mm_M) (o : mm_E) : Prop := ∀ z2 z3 z4 z5 z6 : Option Value, mm_Runs L xs d 283 (27, [some (.ref 84), some (.int v1), z2, z3, z4, z5, z6], [], M) o
def mp_283_49 (L : Nat) (xs : Nat → Int32) (d : Nat) (M : mm_M) (o : mm_E) : Prop := ∀ z1 z2 z3 z4 z5 z6 : Option Value, mm_Runs L xs d 283 (49, [some (.ref 84), z1, z2, z3, z4, z5, z6], [], M) o
noncomputable def mf_283_b27 (v1 : Int32) (M : mm_M) : mm_O ((Int32) ⊕ (Unit)) := if v1 < (14540 : Int32) then (if mm_in v1 14540 then some (.inl (.inl (v1 + (1 : Int32))), (mm_pi M 98 v1.toNatClampNeg (1024 : Int32))) else none) else (some (.inl (.inr ()), M))
noncomputable def mf_283_L27 (s : Int32) (M : mm_M) : mm_O (Unit) := mm_L (fun s M => mf_283_b27 s M) s M
set_option maxRecDepth 8000 in
set_option maxHeartbeats 4000000 in
theorem ms_283_b27 {L : Nat} {xs : Nat → Int32} {d : Nat} (hd : 2 ≤ d) {v1 : Int32} {M : mm_M} {q : (((Int32) ⊕ (Unit)) ⊕ Nat) × mm_M} {o : mm_E} (h : mf_283_b27 v1 M = some q) (hA : mm_A (mm_K2 (fun s M o => mp_283_27 L xs (d) s M o) (fun r M o => mp_283_49 L xs (d) M o)) q o) : mp_283_27 L xs d v1 M o := by
  unfold mf_283_b27 at h
  obtain ⟨d, rfl⟩ := mm_d1 (n := 1) hd
  intro z2 z3 z4 z5 z6
  show mm_Runs L xs (d + 1) 283 (27, [some (.ref 84), some (.int v1), z2, z3, z4, z5, z6], [], M) o
  refine mm_Runs.seq (l := [(27, .iload_n 1, 1), (28, .sipush 14540, 3)]) (S2 := (31, [some (.ref 84), some (.int v1), z2, z3, z4, z5, z6], [.int (14540 : Int32), .int v1], M)) (by decide +kernel) (hO := mm_own_283) rfl ?_
  refine mm_R_ige (t := 49) rfl rfl rfl (fun hc => ?_) (fun hc => ?_)
  · replace h := mm_ip hc h
    refine mm_Runs.seq (l := [(34, .aload_n 0, 1), (35, .getfield 50, 3), (38, .iload_n 1, 1), (39, .sipush 1024, 3)]) (S2 := (42, [some (.ref 84), some (.int v1), z2, z3, z4, z5, z6], [.int (1024 : Int32), .int v1, .ref 98], M)) (by decide +kernel) (hO := mm_own_283) rfl ?_
    obtain ⟨hb, h⟩ := mm_gd h
    refine mm_R_iast rfl rfl hb ?_
    refine mm_Runs.seq (l := [(43, .iinc 1 1, 3), (46, .goto (-19), 3)]) (S2 := (27, [some (.ref 84), some (.int (v1 + (1 : Int32))), z2, z3, z4, z5, z6], [], (mm_pi M 98 v1.toNatClampNeg (1024 : Int32)))) (by decide +kernel) (hO := mm_own_283) rfl ?_
    cases h
    exact (show mp_283_27 L xs (d + 1) (v1 + (1 : Int32)) (mm_pi M 98 v1.toNatClampNeg (1024 : Int32)) o from hA) z2 z3 z4 z5 z6
  · replace h := mm_iq hc h
    cases h
    exact (show mp_283_49 L xs (d + 1) M o from hA) (some (.int v1)) z2 z3 z4 z5 z6
theorem ms_283_L27 {L : Nat} {xs : Nat → Int32} {d : Nat} (hd : 2 ≤ d) {v1 : Int32} {β : Type} {K : β → mm_M → mm_E → Prop} {F : (Unit) → mm_M → mm_O β} {M : mm_M} {q : (β ⊕ Nat) × mm_M} {o : mm_E} (h : mm_B (mf_283_L27 v1 M) F = some q) (hA : mm_A K q o) (hx : ∀ (r : (Unit)) (M2 : mm_M), F r M2 = some q → (fun r M o => mp_283_49 L xs (d) M o) r M2 o) : mp_283_27 L xs d v1 M o := mm_R_loop (s := v1) (M := M) (P := (fun s M o => mp_283_27 L xs (d) s M o)) (X := (fun r M o => mp_283_49 L xs (d) M o)) h hA (fun s M q hq hA => ms_283_b27 hd hq hA) hx
def mp_283_77 (L : Nat) (xs : Nat → Int32) (d : Nat) (v1 : Int32) (v2 : Int32) (M : mm_M) (o : mm_E) : Prop := ∀ z3 z4 z5 z6 : Option Value, mm_Runs L xs d 283 (77, [some (.ref 84), some (.int v1), some (.int v2), z3, z4, z5, z6], [], M) o
def mp_283_170 (L : Nat) (xs : Nat → Int32) (d : Nat) (M : mm_M) (o : mm_E) : Prop := ∀ z1 z2 z3 z4 z5 z6 : Option Value, mm_Runs L xs d 283 (170, [some (.ref 84), z1, z2, z3, z4, z5, z6], [], M) o
def mp_283_114 (L : Nat) (xs : Nat → Int32) (d : Nat) (v2 : Int32) (v3 : Int32) (v4 : Int32) (v5 : Int32) (M : mm_M) (o : mm_E) : Prop := ∀ z1 z6 : Option Value, mm_Runs L xs d 283 (114, [some (.ref 84), z1, some (.int v2), some (.int v3), some (.int v4), some (.int v5), z6], [], M) o
def mp_283_157 (L : Nat) (xs : Nat → Int32) (d : Nat) (v2 : Int32) (M : mm_M) (o : mm_E) : Prop := ∀ z1 z3 z4 z5 z6 : Option Value, mm_Runs L xs d 283 (157, [some (.ref 84), z1, some (.int v2), z3, z4, z5, z6], [], M) o
noncomputable def mf_283_b114 (v2 : Int32) (v3 : Int32) (v4 : Int32) (v5 : Int32) (M : mm_M) : mm_O ((Int32 × Int32) ⊕ (Unit)) := if v5 < 0 then (some (.inl (.inr ()), M)) else (if mm_in v2 10000 then mm_B (mf_282 (v3 + v4) ((mm_shr (M.1 85 v2.toNatClampNeg) v5) &&& (1 : Int32)) M) (fun _ M1 => some (.inl (.inl ((((2 : Int32) * v4) + ((mm_shr (M.1 85 v2.toNatClampNeg) v5) &&& (1 : Int32))), (v5 + (-1 : Int32)))), M1)) else none)
noncomputable def mf_283_L114 (v2 : Int32) (v3 : Int32) (s : Int32 × Int32) (M : mm_M) : mm_O (Unit) := mm_L (fun s M => mf_283_b114 v2 v3 s.1 s.2 M) s M
set_option maxRecDepth 8000 in
set_option maxHeartbeats 4000000 in
theorem ms_283_b114 {L : Nat} {xs : Nat → Int32} {d : Nat} (hd : 2 ≤ d) {v2 : Int32} {v3 : Int32} {v4 : Int32} {v5 : Int32} {M : mm_M} {q : (((Int32 × Int32) ⊕ (Unit)) ⊕ Nat) × mm_M} {o : mm_E} (h : mf_283_b114 v2 v3 v4 v5 M = some q) (hA : mm_A (mm_K2 (fun s M o => mp_283_114 L xs (d) v2 v3 s.1 s.2 M o) (fun r M o => mp_283_157 L xs (d) v2 M o)) q o) : mp_283_114 L xs d v2 v3 v4 v5 M o := by
  unfold mf_283_b114 at h
  obtain ⟨d, rfl⟩ := mm_d1 (n := 1) hd
  intro z1 z6
  show mm_Runs L xs (d + 1) 283 (114, [some (.ref 84), z1, some (.int v2), some (.int v3), some (.int v4), some (.int v5), z6], [], M) o
  refine mm_Runs.seq (l := [(114, .iload 5, 2)]) (S2 := (116, [some (.ref 84), z1, some (.int v2), some (.int v3), some (.int v4), some (.int v5), z6], [.int v5], M)) (by decide +kernel) (hO := mm_own_283) rfl ?_
  refine mm_R_zlt (t := 157) rfl rfl rfl (fun hc => ?_) (fun hc => ?_)
  · replace h := mm_ip hc h
    cases h
    exact (show mp_283_157 L xs (d + 1) v2 M o from hA) z1 (some (.int v3)) (some (.int v4)) (some (.int v5)) z6
  · replace h := mm_iq hc h
    refine mm_Runs.seq (l := [(119, .aload_n 0, 1), (120, .getfield 7, 3), (123, .iload_n 2, 1)]) (S2 := (124, [some (.ref 84), z1, some (.int v2), some (.int v3), some (.int v4), some (.int v5), z6], [.int v2, .ref 85], M)) (by decide +kernel) (hO := mm_own_283) rfl ?_
    obtain ⟨hb, h⟩ := mm_gd h
    refine mm_R_iald rfl rfl hb ?_
    refine mm_Runs.seq (l := [(125, .iload 5, 2), (127, .ishr, 1), (128, .iconst 1, 1), (129, .iand, 1), (130, .istore 6, 2), (132, .aload_n 0, 1), (133, .iload_n 3, 1), (134, .iload 4, 2), (136, .iadd, 1), (137, .iload 6, 2)]) (S2 := (139, [some (.ref 84), z1, some (.int v2), some (.int v3), some (.int v4), some (.int v5), some (.int ((mm_shr (M.1 85 v2.toNatClampNeg) v5) &&& (1 : Int32)))], [.int ((mm_shr (M.1 85 v2.toNatClampNeg) v5) &&& (1 : Int32)), .int (v3 + v4), .ref 84], M)) (by decide +kernel) (hO := mm_own_283) rfl ?_
    refine mm_R_call (v := mm_wv) h hA (k2 := 282) (as := [.ref 84, .int (v3 + v4), .int ((mm_shr (M.1 85 v2.toNatClampNeg) v5) &&& (1 : Int32))]) (r := []) rfl (fun _ => rfl) (fun q hq o ho => ms_282 (by omega) hq ho) (fun _ M1 h => ?_)
    show mm_Runs L xs (d + 1) 283 (142, [some (.ref 84), z1, some (.int v2), some (.int v3), some (.int v4), some (.int v5), some (.int ((mm_shr (M.1 85 v2.toNatClampNeg) v5) &&& (1 : Int32)))], [], M1) o
    refine mm_Runs.seq (l := [(142, .iconst 2, 1), (143, .iload 4, 2), (145, .imul, 1), (146, .iload 6, 2), (148, .iadd, 1), (149, .istore 4, 2), (151, .iinc 5 (-1), 3), (154, .goto (-40), 3)]) (S2 := (114, [some (.ref 84), z1, some (.int v2), some (.int v3), some (.int (((2 : Int32) * v4) + ((mm_shr (M.1 85 v2.toNatClampNeg) v5) &&& (1 : Int32)))), some (.int (v5 + (-1 : Int32))), some (.int ((mm_shr (M.1 85 v2.toNatClampNeg) v5) &&& (1 : Int32)))], [], M1)) (by decide +kernel) (hO := mm_own_283) rfl ?_
    cases h
    exact (show mp_283_114 L xs (d + 1) v2 v3 (((2 : Int32) * v4) + ((mm_shr (M.1 85 v2.toNatClampNeg) v5) &&& (1 : Int32))) (v5 + (-1 : Int32)) M1 o from hA) z1 (some (.int ((mm_shr (M.1 85 v2.toNatClampNeg) v5) &&& (1 : Int32))))
theorem ms_283_L114 {L : Nat} {xs : Nat → Int32} {d : Nat} (hd : 2 ≤ d) {v2 : Int32} {v3 : Int32} {v4 : Int32} {v5 : Int32} {β : Type} {K : β → mm_M → mm_E → Prop} {F : (Unit) → mm_M → mm_O β} {M : mm_M} {q : (β ⊕ Nat) × mm_M} {o : mm_E} (h : mm_B (mf_283_L114 v2 v3 (v4, v5) M) F = some q) (hA : mm_A K q o) (hx : ∀ (r : (Unit)) (M2 : mm_M), F r M2 = some q → (fun r M o => mp_283_157 L xs (d) v2 M o) r M2 o) : mp_283_114 L xs d v2 v3 v4 v5 M o := mm_R_loop (s := (v4, v5)) (M := M) (P := (fun s M o => mp_283_114 L xs (d) v2 v3 s.1 s.2 M o)) (X := (fun r M o => mp_283_157 L xs (d) v2 M o)) h hA (fun s M q hq hA => ms_283_b114 hd hq hA) hx
noncomputable def mf_283_j157 (v2 : Int32) (M : mm_M) : mm_O ((Int32 × Int32) ⊕ (Unit)) := if mm_in v2 10000 then some (.inl (.inl ((M.1 85 v2.toNatClampNeg), (v2 + (1 : Int32)))), M) else none
set_option maxRecDepth 8000 in
set_option maxHeartbeats 4000000 in
theorem ms_283_j157 {L : Nat} {xs : Nat → Int32} {d : Nat} (hd : 2 ≤ d) {v2 : Int32} {M : mm_M} {q : (((Int32 × Int32) ⊕ (Unit)) ⊕ Nat) × mm_M} {o : mm_E} (h : mf_283_j157 v2 M = some q) (hA : mm_A (mm_K2 (fun s M o => mp_283_77 L xs (d) s.1 s.2 M o) (fun r M o => mp_283_170 L xs (d) M o)) q o) : mp_283_157 L xs d v2 M o := by
  unfold mf_283_j157 at h
  obtain ⟨d, rfl⟩ := mm_d1 (n := 1) hd
  intro z1 z3 z4 z5 z6
  show mm_Runs L xs (d + 1) 283 (157, [some (.ref 84), z1, some (.int v2), z3, z4, z5, z6], [], M) o
  refine mm_Runs.seq (l := [(157, .aload_n 0, 1), (158, .getfield 7, 3), (161, .iload_n 2, 1)]) (S2 := (162, [some (.ref 84), z1, some (.int v2), z3, z4, z5, z6], [.int v2, .ref 85], M)) (by decide +kernel) (hO := mm_own_283) rfl ?_
  obtain ⟨hb, h⟩ := mm_gd h
  refine mm_R_iald rfl rfl hb ?_
  refine mm_Runs.seq (l := [(163, .istore_n 1, 1), (164, .iinc 2 1, 3), (167, .goto (-90), 3)]) (S2 := (77, [some (.ref 84), some (.int (M.1 85 v2.toNatClampNeg)), some (.int (v2 + (1 : Int32))), z3, z4, z5, z6], [], M)) (by decide +kernel) (hO := mm_own_283) rfl ?_
  cases h
  exact (show mp_283_77 L xs (d + 1) (M.1 85 v2.toNatClampNeg) (v2 + (1 : Int32)) M o from hA) z3 z4 z5 z6
noncomputable def mf_283_b77 (v1 : Int32) (v2 : Int32) (M : mm_M) : mm_O ((Int32 × Int32) ⊕ (Unit)) := if v2 < (M.1 84 2) then (mm_B (mf_282 ((0 : Int32) + (mm_rem v2 (4 : Int32))) (0 : Int32) M) (fun _ M1 => mm_B (mf_283_L114 v2 ((2244 : Int32) + ((768 : Int32) * (mm_shr v1 (5 : Int32)))) ((1 : Int32), (7 : Int32)) M1) (fun r3 M2 => mf_283_j157 v2 M2))) else (some (.inl (.inr ()), M))
noncomputable def mf_283_L77 (s : Int32 × Int32) (M : mm_M) : mm_O (Unit) := mm_L (fun s M => mf_283_b77 s.1 s.2 M) s M
set_option maxRecDepth 8000 in
set_option maxHeartbeats 4000000 in
theorem ms_283_b77 {L : Nat} {xs : Nat → Int32} {d : Nat} (hd : 2 ≤ d) {v1 : Int32} {v2 : Int32} {M : mm_M} {q : (((Int32 × Int32) ⊕ (Unit)) ⊕ Nat) × mm_M} {o : mm_E} (h : mf_283_b77 v1 v2 M = some q) (hA : mm_A (mm_K2 (fun s M o => mp_283_77 L xs (d) s.1 s.2 M o) (fun r M o => mp_283_170 L xs (d) M o)) q o) : mp_283_77 L xs d v1 v2 M o := by
  unfold mf_283_b77 at h
  obtain ⟨d, rfl⟩ := mm_d1 (n := 1) hd
  intro z3 z4 z5 z6
  show mm_Runs L xs (d + 1) 283 (77, [some (.ref 84), some (.int v1), some (.int v2), z3, z4, z5, z6], [], M) o
  refine mm_Runs.seq (l := [(77, .iload_n 2, 1), (78, .aload_n 0, 1), (79, .getfield 91, 3)]) (S2 := (82, [some (.ref 84), some (.int v1), some (.int v2), z3, z4, z5, z6], [.int (M.1 84 2), .int v2], M)) (by decide +kernel) (hO := mm_own_283) rfl ?_
  refine mm_R_ige (t := 170) rfl rfl rfl (fun hc => ?_) (fun hc => ?_)
  · replace h := mm_ip hc h
    refine mm_Runs.seq (l := [(85, .aload_n 0, 1), (86, .iconst 0, 1), (87, .iload_n 2, 1), (88, .iconst 4, 1), (89, .irem, 1), (90, .iadd, 1), (91, .iconst 0, 1)]) (S2 := (92, [some (.ref 84), some (.int v1), some (.int v2), z3, z4, z5, z6], [.int (0 : Int32), .int ((0 : Int32) + (mm_rem v2 (4 : Int32))), .ref 84], M)) (by decide +kernel) (hO := mm_own_283) rfl ?_
    refine mm_R_call (v := mm_wv) h hA (k2 := 282) (as := [.ref 84, .int ((0 : Int32) + (mm_rem v2 (4 : Int32))), .int (0 : Int32)]) (r := []) rfl (fun _ => rfl) (fun q hq o ho => ms_282 (by omega) hq ho) (fun _ M1 h => ?_)
    show mm_Runs L xs (d + 1) 283 (95, [some (.ref 84), some (.int v1), some (.int v2), z3, z4, z5, z6], [], M1) o
    refine mm_Runs.seq (l := [(95, .sipush 2244, 3), (98, .sipush 768, 3), (101, .iload_n 1, 1), (102, .iconst 5, 1), (103, .ishr, 1), (104, .imul, 1), (105, .iadd, 1), (106, .istore_n 3, 1), (107, .iconst 1, 1), (108, .istore 4, 2), (110, .bipush 7, 2), (112, .istore 5, 2)]) (S2 := (114, [some (.ref 84), some (.int v1), some (.int v2), some (.int ((2244 : Int32) + ((768 : Int32) * (mm_shr v1 (5 : Int32))))), some (.int (1 : Int32)), some (.int (7 : Int32)), z6], [], M1)) (by decide +kernel) (hO := mm_own_283) rfl ?_
    have hp : mp_283_114 L xs (d + 1) v2 ((2244 : Int32) + ((768 : Int32) * (mm_shr v1 (5 : Int32)))) (1 : Int32) (7 : Int32) M1 o := by
      refine ms_283_L114 hd h hA (fun r3 M2 h => ?_)
      intro y4 y5 y6 y7 y8
      show mm_Runs L xs (d + 1) 283 (157, [some (.ref 84), y4, some (.int v2), y5, y6, y7, y8], [], M2) o
      exact (ms_283_j157 hd h hA : mp_283_157 L xs (d + 1) v2 M2 o) y4 y5 y6 y7 y8
    exact hp (some (.int v1)) z6
  · replace h := mm_iq hc h
    cases h
    exact (show mp_283_170 L xs (d + 1) M o from hA) (some (.int v1)) (some (.int v2)) z3 z4 z5 z6
theorem ms_283_L77 {L : Nat} {xs : Nat → Int32} {d : Nat} (hd : 2 ≤ d) {v1 : Int32} {v2 : Int32} {β : Type} {K : β → mm_M → mm_E → Prop} {F : (Unit) → mm_M → mm_O β} {M : mm_M} {q : (β ⊕ Nat) × mm_M} {o : mm_E} (h : mm_B (mf_283_L77 (v1, v2) M) F = some q) (hA : mm_A K q o) (hx : ∀ (r : (Unit)) (M2 : mm_M), F r M2 = some q → (fun r M o => mp_283_170 L xs (d) M o) r M2 o) : mp_283_77 L xs d v1 v2 M o := mm_R_loop (s := (v1, v2)) (M := M) (P := (fun s M o => mp_283_77 L xs (d) s.1 s.2 M o)) (X := (fun r M o => mp_283_170 L xs (d) M o)) h hA (fun s M q hq hA => ms_283_b77 hd hq hA) hx
def mp_283_172 (L : Nat) (xs : Nat → Int32) (d : Nat) (v2 : Int32) (M : mm_M) (o : mm_E) : Prop := ∀ z1 z3 z4 z5 z6 : Option Value, mm_Runs L xs d 283 (172, [some (.ref 84), z1, some (.int v2), z3, z4, z5, z6], [], M) o
def mp_283_196 (L : Nat) (xs : Nat → Int32) (d : Nat) (M : mm_M) (o : mm_E) : Prop := ∀ z1 z2 z3 z4 z5 z6 : Option Value, mm_Runs L xs d 283 (196, [some (.ref 84), z1, z2, z3, z4, z5, z6], [], M) o
noncomputable def mf_283_b172 (v2 : Int32) (M : mm_M) : mm_O ((Int32) ⊕ (Unit)) := if v2 < (M.1 84 54) then (if mm_in v2 12600 then mm_B (mf_245 (M.1 102 v2.toNatClampNeg) M) (fun _ M1 => some (.inl (.inl (v2 + (1 : Int32))), M1)) else none) else (some (.inl (.inr ()), M))
noncomputable def mf_283_L172 (s : Int32) (M : mm_M) : mm_O (Unit) := mm_L (fun s M => mf_283_b172 s M) s M
set_option maxRecDepth 8000 in
set_option maxHeartbeats 4000000 in
theorem ms_283_b172 {L : Nat} {xs : Nat → Int32} {d : Nat} (hd : 2 ≤ d) {v2 : Int32} {M : mm_M} {q : (((Int32) ⊕ (Unit)) ⊕ Nat) × mm_M} {o : mm_E} (h : mf_283_b172 v2 M = some q) (hA : mm_A (mm_K2 (fun s M o => mp_283_172 L xs (d) s M o) (fun r M o => mp_283_196 L xs (d) M o)) q o) : mp_283_172 L xs d v2 M o := by
  unfold mf_283_b172 at h
  obtain ⟨d, rfl⟩ := mm_d1 (n := 1) hd
  intro z1 z3 z4 z5 z6
  show mm_Runs L xs (d + 1) 283 (172, [some (.ref 84), z1, some (.int v2), z3, z4, z5, z6], [], M) o
  refine mm_Runs.seq (l := [(172, .iload_n 2, 1), (173, .aload_n 0, 1), (174, .getfield 522, 3)]) (S2 := (177, [some (.ref 84), z1, some (.int v2), z3, z4, z5, z6], [.int (M.1 84 54), .int v2], M)) (by decide +kernel) (hO := mm_own_283) rfl ?_
  refine mm_R_ige (t := 196) rfl rfl rfl (fun hc => ?_) (fun hc => ?_)
  · replace h := mm_ip hc h
    refine mm_Runs.seq (l := [(180, .aload_n 0, 1), (181, .aload_n 0, 1), (182, .getfield 63, 3), (185, .iload_n 2, 1)]) (S2 := (186, [some (.ref 84), z1, some (.int v2), z3, z4, z5, z6], [.int v2, .ref 102, .ref 84], M)) (by decide +kernel) (hO := mm_own_283) rfl ?_
    obtain ⟨hb, h⟩ := mm_gd h
    refine mm_R_iald rfl rfl hb ?_
    refine mm_R_call (v := mm_wv) h hA (k2 := 245) (as := [.ref 84, .int (M.1 102 v2.toNatClampNeg)]) (r := []) rfl (fun _ => rfl) (fun q hq o ho => ms_245 (by omega) hq ho) (fun _ M1 h => ?_)
    show mm_Runs L xs (d + 1) 283 (190, [some (.ref 84), z1, some (.int v2), z3, z4, z5, z6], [], M1) o
    refine mm_Runs.seq (l := [(190, .iinc 2 1, 3), (193, .goto (-21), 3)]) (S2 := (172, [some (.ref 84), (mm_no2 z1), some (.int (v2 + (1 : Int32))), z3, z4, z5, z6], [], M1)) (by decide +kernel) (hO := mm_own_283) rfl ?_
    cases h
    exact (show mp_283_172 L xs (d + 1) (v2 + (1 : Int32)) M1 o from hA) ((mm_no2 z1)) z3 z4 z5 z6
  · replace h := mm_iq hc h
    cases h
    exact (show mp_283_196 L xs (d + 1) M o from hA) z1 (some (.int v2)) z3 z4 z5 z6
theorem ms_283_L172 {L : Nat} {xs : Nat → Int32} {d : Nat} (hd : 2 ≤ d) {v2 : Int32} {β : Type} {K : β → mm_M → mm_E → Prop} {F : (Unit) → mm_M → mm_O β} {M : mm_M} {q : (β ⊕ Nat) × mm_M} {o : mm_E} (h : mm_B (mf_283_L172 v2 M) F = some q) (hA : mm_A K q o) (hx : ∀ (r : (Unit)) (M2 : mm_M), F r M2 = some q → (fun r M o => mp_283_196 L xs (d) M o) r M2 o) : mp_283_172 L xs d v2 M o := mm_R_loop (s := v2) (M := M) (P := (fun s M o => mp_283_172 L xs (d) s M o)) (X := (fun r M o => mp_283_196 L xs (d) M o)) h hA (fun s M q hq hA => ms_283_b172 hd hq hA) hx
def mp_283_198 (L : Nat) (xs : Nat → Int32) (d : Nat) (v2 : Int32) (M : mm_M) (o : mm_E) : Prop := ∀ z1 z3 z4 z5 z6 : Option Value, mm_Runs L xs d 283 (198, [some (.ref 84), z1, some (.int v2), z3, z4, z5, z6], [], M) o
def mp_283_226 (L : Nat) (xs : Nat → Int32) (d : Nat) (M : mm_M) (o : mm_E) : Prop := ∀ z0 z1 z2 z3 z4 z5 z6 : Option Value, mm_Runs L xs d 283 (226, [z0, z1, z2, z3, z4, z5, z6], [], M) o
noncomputable def mf_283_b198 (v2 : Int32) (M : mm_M) : mm_O ((Int32) ⊕ (Unit)) := if v2 < 0 then (some (.inl (.inr ()), M)) else (mm_B (mf_245 ((mm_lush (M.2.1 84 53) ((8 : Int32) * v2)).toInt32 &&& (255 : Int32)) M) (fun _ M1 => some (.inl (.inl (v2 + (-1 : Int32))), M1)))
noncomputable def mf_283_L198 (s : Int32) (M : mm_M) : mm_O (Unit) := mm_L (fun s M => mf_283_b198 s M) s M
set_option maxRecDepth 8000 in
set_option maxHeartbeats 4000000 in
theorem ms_283_b198 {L : Nat} {xs : Nat → Int32} {d : Nat} (hd : 2 ≤ d) {v2 : Int32} {M : mm_M} {q : (((Int32) ⊕ (Unit)) ⊕ Nat) × mm_M} {o : mm_E} (h : mf_283_b198 v2 M = some q) (hA : mm_A (mm_K2 (fun s M o => mp_283_198 L xs (d) s M o) (fun r M o => mp_283_226 L xs (d) M o)) q o) : mp_283_198 L xs d v2 M o := by
  unfold mf_283_b198 at h
  obtain ⟨d, rfl⟩ := mm_d1 (n := 1) hd
  intro z1 z3 z4 z5 z6
  show mm_Runs L xs (d + 1) 283 (198, [some (.ref 84), z1, some (.int v2), z3, z4, z5, z6], [], M) o
  refine mm_Runs.seq (l := [(198, .iload_n 2, 1)]) (S2 := (199, [some (.ref 84), z1, some (.int v2), z3, z4, z5, z6], [.int v2], M)) (by decide +kernel) (hO := mm_own_283) rfl ?_
  refine mm_R_zlt (t := 226) rfl rfl rfl (fun hc => ?_) (fun hc => ?_)
  · replace h := mm_ip hc h
    cases h
    exact (show mp_283_226 L xs (d + 1) M o from hA) (some (.ref 84)) z1 (some (.int v2)) z3 z4 z5 z6
  · replace h := mm_iq hc h
    refine mm_Runs.seq (l := [(202, .aload_n 0, 1), (203, .aload_n 0, 1), (204, .getfield 519, 3), (207, .bipush 8, 2), (209, .iload_n 2, 1), (210, .imul, 1), (211, .lushr, 1), (212, .l2i, 1), (213, .sipush 255, 3), (216, .iand, 1)]) (S2 := (217, [some (.ref 84), z1, some (.int v2), z3, z4, z5, z6], [.int ((mm_lush (M.2.1 84 53) ((8 : Int32) * v2)).toInt32 &&& (255 : Int32)), .ref 84], M)) (by decide +kernel) (hO := mm_own_283) rfl ?_
    refine mm_R_call (v := mm_wv) h hA (k2 := 245) (as := [.ref 84, .int ((mm_lush (M.2.1 84 53) ((8 : Int32) * v2)).toInt32 &&& (255 : Int32))]) (r := []) rfl (fun _ => rfl) (fun q hq o ho => ms_245 (by omega) hq ho) (fun _ M1 h => ?_)
    show mm_Runs L xs (d + 1) 283 (220, [some (.ref 84), z1, some (.int v2), z3, z4, z5, z6], [], M1) o
    refine mm_Runs.seq (l := [(220, .iinc 2 (-1), 3), (223, .goto (-25), 3)]) (S2 := (198, [some (.ref 84), (mm_no2 z1), some (.int (v2 + (-1 : Int32))), z3, z4, z5, z6], [], M1)) (by decide +kernel) (hO := mm_own_283) rfl ?_
    cases h
    exact (show mp_283_198 L xs (d + 1) (v2 + (-1 : Int32)) M1 o from hA) ((mm_no2 z1)) z3 z4 z5 z6
theorem ms_283_L198 {L : Nat} {xs : Nat → Int32} {d : Nat} (hd : 2 ≤ d) {v2 : Int32} {β : Type} {K : β → mm_M → mm_E → Prop} {F : (Unit) → mm_M → mm_O β} {M : mm_M} {q : (β ⊕ Nat) × mm_M} {o : mm_E} (h : mm_B (mf_283_L198 v2 M) F = some q) (hA : mm_A K q o) (hx : ∀ (r : (Unit)) (M2 : mm_M), F r M2 = some q → (fun r M o => mp_283_226 L xs (d) M o) r M2 o) : mp_283_198 L xs d v2 M o := mm_R_loop (s := v2) (M := M) (P := (fun s M o => mp_283_198 L xs (d) s M o)) (X := (fun r M o => mp_283_226 L xs (d) M o)) h hA (fun s M q hq hA => ms_283_b198 hd hq hA) hx
noncomputable def mf_283_j49 (M : mm_M) : mm_O Unit := if mm_in (0 : Int32) 12600 then mm_B (mf_283_L77 ((0 : Int32), (0 : Int32)) (mm_pi (mm_pi (mm_pl (mm_pl M 84 33 (4294967295 : Int64)) 84 53 (0 : Int64)) 102 (0 : Int32).toNatClampNeg (0 : Int32)) 84 54 (1 : Int32))) (fun r2 M1 => mm_B (mf_283_L172 (0 : Int32) M1) (fun r10 M9 => mm_B (mf_283_L198 (3 : Int32) M9) (fun r18 M17 => some (.inl (), M17)))) else none
set_option maxRecDepth 8000 in
set_option maxHeartbeats 4000000 in
theorem ms_283_j49 {L : Nat} {xs : Nat → Int32} {d : Nat} (hd : 2 ≤ d) {M : mm_M} {q : (Unit ⊕ Nat) × mm_M} {o : mm_E} (h : mf_283_j49 M = some q) (hA : mm_A (mm_Kr mm_wv) q o) : mp_283_49 L xs d M o := by
  unfold mf_283_j49 at h
  obtain ⟨d, rfl⟩ := mm_d1 (n := 1) hd
  intro z1 z2 z3 z4 z5 z6
  show mm_Runs L xs (d + 1) 283 (49, [some (.ref 84), z1, z2, z3, z4, z5, z6], [], M) o
  refine mm_Runs.seq (l := [(49, .aload_n 0, 1), (50, .ldc2_w 272, 3), (53, .putfield 319, 3), (56, .aload_n 0, 1), (57, .lconst 0, 1), (58, .putfield 519, 3), (61, .aload_n 0, 1), (62, .getfield 63, 3), (65, .iconst 0, 1), (66, .iconst 0, 1)]) (S2 := (67, [some (.ref 84), z1, z2, z3, z4, z5, z6], [.int (0 : Int32), .int (0 : Int32), .ref 102], (mm_pl (mm_pl M 84 33 (4294967295 : Int64)) 84 53 (0 : Int64)))) (by decide +kernel) (hO := mm_own_283) rfl ?_
  obtain ⟨hb, h⟩ := mm_gd h
  refine mm_R_iast rfl rfl hb ?_
  refine mm_Runs.seq (l := [(68, .aload_n 0, 1), (69, .iconst 1, 1), (70, .putfield 522, 3), (73, .iconst 0, 1), (74, .istore_n 1, 1), (75, .iconst 0, 1), (76, .istore_n 2, 1)]) (S2 := (77, [some (.ref 84), some (.int (0 : Int32)), some (.int (0 : Int32)), z3, z4, z5, z6], [], (mm_pi (mm_pi (mm_pl (mm_pl M 84 33 (4294967295 : Int64)) 84 53 (0 : Int64)) 102 (0 : Int32).toNatClampNeg (0 : Int32)) 84 54 (1 : Int32)))) (by decide +kernel) (hO := mm_own_283) rfl ?_
  have hp : mp_283_77 L xs (d + 1) (0 : Int32) (0 : Int32) (mm_pi (mm_pi (mm_pl (mm_pl M 84 33 (4294967295 : Int64)) 84 53 (0 : Int64)) 102 (0 : Int32).toNatClampNeg (0 : Int32)) 84 54 (1 : Int32)) o := by
    refine ms_283_L77 hd h hA (fun r2 M1 h => ?_)
    intro y3 y4 y5 y6 y7 y8
    show mm_Runs L xs (d + 1) 283 (170, [some (.ref 84), y3, y4, y5, y6, y7, y8], [], M1) o
    refine mm_Runs.seq (l := [(170, .iconst 0, 1), (171, .istore_n 2, 1)]) (S2 := (172, [some (.ref 84), (mm_no2 y3), some (.int (0 : Int32)), y5, y6, y7, y8], [], M1)) (by decide +kernel) (hO := mm_own_283) rfl ?_
    have hp : mp_283_172 L xs (d + 1) (0 : Int32) M1 o := by
      refine ms_283_L172 hd h hA (fun r10 M9 h => ?_)
      intro y11 y12 y13 y14 y15 y16
      show mm_Runs L xs (d + 1) 283 (196, [some (.ref 84), y11, y12, y13, y14, y15, y16], [], M9) o
      refine mm_Runs.seq (l := [(196, .iconst 3, 1), (197, .istore_n 2, 1)]) (S2 := (198, [some (.ref 84), (mm_no2 y11), some (.int (3 : Int32)), y13, y14, y15, y16], [], M9)) (by decide +kernel) (hO := mm_own_283) rfl ?_
      have hp : mp_283_198 L xs (d + 1) (3 : Int32) M9 o := by
        refine ms_283_L198 hd h hA (fun r18 M17 h => ?_)
        intro y19 y20 y21 y22 y23 y24 y25
        show mm_Runs L xs (d + 1) 283 (226, [y19, y20, y21, y22, y23, y24, y25], [], M17) o
        cases h
        exact mm_R_retv rfl rfl hA
      exact hp ((mm_no2 y11)) y13 y14 y15 y16
    exact hp ((mm_no2 y3)) y5 y6 y7 y8
  exact hp z3 z4 z5 z6
noncomputable def mf_283 (M : mm_M) : mm_O Unit := mm_B (mf_245 (93 : Int32) M) (fun _ M1 => mm_B (mf_246 (65536 : Int64) (4 : Int32) M1) (fun _ M2 => mm_B (mf_246 (M2.1 84 2).toInt64 (8 : Int32) M2) (fun _ M3 => mm_B (mf_283_L27 (0 : Int32) M3) (fun r5 M4 => mf_283_j49 M4))))
set_option maxRecDepth 8000 in
set_option maxHeartbeats 4000000 in
theorem ms_283 {L : Nat} {xs : Nat → Int32} {d : Nat} (hd : 2 ≤ d) {M : mm_M} {q : (Unit ⊕ Nat) × mm_M} {o : mm_E} (h : mf_283 M = some q) (hA : mm_A (mm_Kr mm_wv) q o) : mm_Runs L xs d 283 (0, mm_ent (mm_ml 283) [.ref 84], [], M) o := by
  unfold mf_283 at h
  obtain ⟨d, rfl⟩ := mm_d1 (n := 1) hd
  show mm_Runs L xs (d + 1) 283 (0, [some (.ref 84), none, none, none, none, none, none], [], M) o
  refine mm_Runs.seq (l := [(0, .aload_n 0, 1), (1, .bipush 93, 2)]) (S2 := (3, [some (.ref 84), none, none, none, none, none, none], [.int (93 : Int32), .ref 84], M)) (by decide +kernel) (hO := mm_own_283) rfl ?_
  refine mm_R_call (v := mm_wv) h hA (k2 := 245) (as := [.ref 84, .int (93 : Int32)]) (r := []) rfl (fun _ => rfl) (fun q hq o ho => ms_245 (by omega) hq ho) (fun _ M1 h => ?_)
  show mm_Runs L xs (d + 1) 283 (6, [some (.ref 84), none, none, none, none, none, none], [], M1) o
  refine mm_Runs.seq (l := [(6, .aload_n 0, 1), (7, .ldc2_w 528, 3), (10, .iconst 4, 1)]) (S2 := (11, [some (.ref 84), none, none, none, none, none, none], [.int (4 : Int32), .long (65536 : Int64), .ref 84], M1)) (by decide +kernel) (hO := mm_own_283) rfl ?_
  refine mm_R_call (v := mm_wv) h hA (k2 := 246) (as := [.ref 84, .long (65536 : Int64), .int (4 : Int32)]) (r := []) rfl (fun _ => rfl) (fun q hq o ho => ms_246 (by omega) hq ho) (fun _ M2 h => ?_)
  show mm_Runs L xs (d + 1) 283 (14, [some (.ref 84), none, none, none, none, none, none], [], M2) o
  refine mm_Runs.seq (l := [(14, .aload_n 0, 1), (15, .aload_n 0, 1), (16, .getfield 91, 3), (19, .i2l, 1), (20, .bipush 8, 2)]) (S2 := (22, [some (.ref 84), none, none, none, none, none, none], [.int (8 : Int32), .long (M2.1 84 2).toInt64, .ref 84], M2)) (by decide +kernel) (hO := mm_own_283) rfl ?_
  refine mm_R_call (v := mm_wv) h hA (k2 := 246) (as := [.ref 84, .long (M2.1 84 2).toInt64, .int (8 : Int32)]) (r := []) rfl (fun _ => rfl) (fun q hq o ho => ms_246 (by omega) hq ho) (fun _ M3 h => ?_)
  show mm_Runs L xs (d + 1) 283 (25, [some (.ref 84), none, none, none, none, none, none], [], M3) o
  refine mm_Runs.seq (l := [(25, .iconst 0, 1), (26, .istore_n 1, 1)]) (S2 := (27, [some (.ref 84), some (.int (0 : Int32)), none, none, none, none, none], [], M3)) (by decide +kernel) (hO := mm_own_283) rfl ?_
  have hp : mp_283_27 L xs (d + 1) (0 : Int32) M3 o := by
    refine ms_283_L27 hd h hA (fun r5 M4 h => ?_)
    intro y6 y7 y8 y9 y10 y11
    show mm_Runs L xs (d + 1) 283 (49, [some (.ref 84), y6, y7, y8, y9, y10, y11], [], M4) o
    exact (ms_283_j49 hd h hA : mp_283_49 L xs (d + 1) M4 o) y6 y7 y8 y9 y10 y11
  exact hp none none none none none
