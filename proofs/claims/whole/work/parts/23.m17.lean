/-! MEANINGS 17 -/
-- 196: PlainPacksModel.copy(IJI)V (depth 2)
theorem mm_own_196 : mm_own 196 = 12 := rfl
def mp_196_26 (L : Nat) (xs : Nat → Int32) (d : Nat) (v1 : Int32) (v2 : Int64) (M : mm_M) (o : mm_E) : Prop := ∀ z3 z4 z5 z6 : Option Value, mm_Runs L xs d 196 (26, [some (.ref 84), some (.int v1), some (.long v2), z3, z4, z5, z6], [], M) o
def mp_196_30 (L : Nat) (xs : Nat → Int32) (d : Nat) (v1 : Int32) (v2 : Int64) (M : mm_M) (o : mm_E) : Prop := ∀ z3 z4 z5 z6 : Option Value, mm_Runs L xs d 196 (30, [some (.ref 84), some (.int v1), some (.long v2), z3, z4, z5, z6], [], M) o
def mp_196_69 (L : Nat) (xs : Nat → Int32) (d : Nat) (v1 : Int32) (v5 : Int32) (s1 : Int32) (M : mm_M) (o : mm_E) : Prop := ∀ z2 z3 z4 z6 : Option Value, mm_Runs L xs d 196 (69, [some (.ref 84), some (.int v1), z2, z3, z4, some (.int v5), z6], [.int s1, .ref 84], M) o
def mp_196_97 (L : Nat) (xs : Nat → Int32) (d : Nat) (v1 : Int32) (v5 : Int32) (v6 : Int32) (M : mm_M) (o : mm_E) : Prop := ∀ z2 z3 z4 : Option Value, mm_Runs L xs d 196 (97, [some (.ref 84), some (.int v1), z2, z3, z4, some (.int v5), some (.int v6)], [], M) o
def mp_196_133 (L : Nat) (xs : Nat → Int32) (d : Nat) (M : mm_M) (o : mm_E) : Prop := ∀ z0 z1 z2 z3 z4 z5 z6 : Option Value, mm_Runs L xs d 196 (133, [z0, z1, z2, z3, z4, z5, z6], [], M) o
noncomputable def mf_196_b97 (v1 : Int32) (v5 : Int32) (v6 : Int32) (M : mm_M) : mm_O ((Int32) ⊕ (Unit)) := if v6 < v1 then (if (M.1 84 7) = 0 then (if mm_in ((M.1 84 4) - v5) 16384 then mm_B (mf_194 (M.1 86 ((M.1 84 4) - v5).toNatClampNeg) M) (fun r1 M2 => some (.inl (.inl (v6 + (1 : Int32))), M2)) else none) else (some (.inl (.inr ()), M))) else (some (.inl (.inr ()), M))
noncomputable def mf_196_L97 (v1 : Int32) (v5 : Int32) (s : Int32) (M : mm_M) : mm_O (Unit) := mm_L (fun s M => mf_196_b97 v1 v5 s M) s M
set_option maxRecDepth 8000 in
set_option maxHeartbeats 4000000 in
theorem ms_196_b97 {L : Nat} {xs : Nat → Int32} {d : Nat} (hd : 2 ≤ d) {v1 : Int32} {v5 : Int32} {v6 : Int32} {M : mm_M} {q : (((Int32) ⊕ (Unit)) ⊕ Nat) × mm_M} {o : mm_E} (h : mf_196_b97 v1 v5 v6 M = some q) (hA : mm_A (mm_K2 (fun s M o => mp_196_97 L xs (d) v1 v5 s M o) (fun r M o => mp_196_133 L xs (d) M o)) q o) : mp_196_97 L xs d v1 v5 v6 M o := by
  unfold mf_196_b97 at h
  obtain ⟨d, rfl⟩ := mm_d1 (n := 1) hd
  intro z2 z3 z4
  show mm_Runs L xs (d + 1) 196 (97, [some (.ref 84), some (.int v1), z2, z3, z4, some (.int v5), some (.int v6)], [], M) o
  refine mm_Runs.seq (l := [(97, .iload 6, 2), (99, .iload_n 1, 1)]) (S2 := (100, [some (.ref 84), some (.int v1), z2, z3, z4, some (.int v5), some (.int v6)], [.int v1, .int v6], M)) (by decide +kernel) (hO := mm_own_196) rfl ?_
  refine mm_R_ige (t := 133) rfl rfl rfl (fun hc => ?_) (fun hc => ?_)
  · replace h := mm_ip hc h
    refine mm_Runs.seq (l := [(103, .aload_n 0, 1), (104, .getfield 154, 3)]) (S2 := (107, [some (.ref 84), some (.int v1), z2, z3, z4, some (.int v5), some (.int v6)], [.int (M.1 84 7)], M)) (by decide +kernel) (hO := mm_own_196) rfl ?_
    refine mm_R_zne (t := 133) rfl rfl rfl (fun hc => ?_) (fun hc => ?_)
    · replace h := mm_ip hc h
      refine mm_Runs.seq (l := [(110, .aload_n 0, 1), (111, .aload_n 0, 1), (112, .getfield 13, 3), (115, .aload_n 0, 1), (116, .getfield 98, 3), (119, .iload 5, 2), (121, .isub, 1)]) (S2 := (122, [some (.ref 84), some (.int v1), z2, z3, z4, some (.int v5), some (.int v6)], [.int ((M.1 84 4) - v5), .ref 86, .ref 84], M)) (by decide +kernel) (hO := mm_own_196) rfl ?_
      obtain ⟨hb, h⟩ := mm_gd h
      refine mm_R_iald rfl rfl hb ?_
      refine mm_R_call (v := mm_wi) h hA (k2 := 194) (as := [.ref 84, .int (M.1 86 ((M.1 84 4) - v5).toNatClampNeg)]) (r := []) rfl (fun _ => rfl) (fun q hq o ho => ms_194 (by omega) hq ho) (fun r1 M2 h => ?_)
      show mm_Runs L xs (d + 1) 196 (126, [some (.ref 84), some (.int v1), z2, z3, z4, some (.int v5), some (.int v6)], [.int r1], M2) o
      refine mm_Runs.seq (l := [(126, .pop, 1), (127, .iinc 6 1, 3), (130, .goto (-33), 3)]) (S2 := (97, [some (.ref 84), some (.int v1), z2, z3, z4, some (.int v5), some (.int (v6 + (1 : Int32)))], [], M2)) (by decide +kernel) (hO := mm_own_196) rfl ?_
      cases h
      exact (show mp_196_97 L xs (d + 1) v1 v5 (v6 + (1 : Int32)) M2 o from hA) z2 z3 z4
    · replace h := mm_iq hc h
      cases h
      exact (show mp_196_133 L xs (d + 1) M o from hA) (some (.ref 84)) (some (.int v1)) z2 z3 z4 (some (.int v5)) (some (.int v6))
  · replace h := mm_iq hc h
    cases h
    exact (show mp_196_133 L xs (d + 1) M o from hA) (some (.ref 84)) (some (.int v1)) z2 z3 z4 (some (.int v5)) (some (.int v6))
theorem ms_196_L97 {L : Nat} {xs : Nat → Int32} {d : Nat} (hd : 2 ≤ d) {v1 : Int32} {v5 : Int32} {v6 : Int32} {β : Type} {K : β → mm_M → mm_E → Prop} {F : (Unit) → mm_M → mm_O β} {M : mm_M} {q : (β ⊕ Nat) × mm_M} {o : mm_E} (h : mm_B (mf_196_L97 v1 v5 v6 M) F = some q) (hA : mm_A K q o) (hx : ∀ (r : (Unit)) (M2 : mm_M), F r M2 = some q → (fun r M o => mp_196_133 L xs (d) M o) r M2 o) : mp_196_97 L xs d v1 v5 v6 M o := mm_R_loop (s := v6) (M := M) (P := (fun s M o => mp_196_97 L xs (d) v1 v5 s M o)) (X := (fun r M o => mp_196_133 L xs (d) M o)) h hA (fun s M q hq hA => ms_196_b97 hd hq hA) hx
noncomputable def mf_196_j69 (v1 : Int32) (v5 : Int32) (s1 : Int32) (M : mm_M) : mm_O Unit := if (M.1 84 11) < v5 then (mm_B (mf_196_L97 v1 v5 (0 : Int32) (mm_pi (mm_pi M 84 10 s1) 84 11 v5)) (fun r2 M1 => some (.inl (), M1))) else (mm_B (mf_196_L97 v1 v5 (0 : Int32) (mm_pi (mm_pi M 84 10 s1) 84 11 (M.1 84 11))) (fun r11 M10 => some (.inl (), M10)))
set_option maxRecDepth 8000 in
set_option maxHeartbeats 4000000 in
theorem ms_196_j69 {L : Nat} {xs : Nat → Int32} {d : Nat} (hd : 2 ≤ d) {v1 : Int32} {v5 : Int32} {s1 : Int32} {M : mm_M} {q : (Unit ⊕ Nat) × mm_M} {o : mm_E} (h : mf_196_j69 v1 v5 s1 M = some q) (hA : mm_A (mm_Kr mm_wv) q o) : mp_196_69 L xs d v1 v5 s1 M o := by
  unfold mf_196_j69 at h
  obtain ⟨d, rfl⟩ := mm_d1 (n := 1) hd
  intro z2 z3 z4 z6
  show mm_Runs L xs (d + 1) 196 (69, [some (.ref 84), some (.int v1), z2, z3, z4, some (.int v5), z6], [.int s1, .ref 84], M) o
  refine mm_Runs.seq (l := [(69, .putfield 110, 3), (72, .aload_n 0, 1), (73, .iload 5, 2), (75, .aload_n 0, 1), (76, .getfield 113, 3)]) (S2 := (79, [some (.ref 84), some (.int v1), z2, z3, z4, some (.int v5), z6], [.int (M.1 84 11), .int v5, .ref 84], (mm_pi M 84 10 s1))) (by decide +kernel) (hO := mm_own_196) rfl ?_
  refine mm_R_ile (t := 87) rfl rfl rfl (fun hc => ?_) (fun hc => ?_)
  · replace h := mm_ip hc h
    refine mm_Runs.seq (l := [(82, .iload 5, 2), (84, .goto 7, 3), (91, .putfield 113, 3), (94, .iconst 0, 1), (95, .istore 6, 2)]) (S2 := (97, [some (.ref 84), some (.int v1), z2, z3, z4, some (.int v5), some (.int (0 : Int32))], [], (mm_pi (mm_pi M 84 10 s1) 84 11 v5))) (by decide +kernel) (hO := mm_own_196) rfl ?_
    have hp : mp_196_97 L xs (d + 1) v1 v5 (0 : Int32) (mm_pi (mm_pi M 84 10 s1) 84 11 v5) o := by
      refine ms_196_L97 hd h hA (fun r2 M1 h => ?_)
      intro y3 y4 y5 y6 y7 y8 y9
      show mm_Runs L xs (d + 1) 196 (133, [y3, y4, y5, y6, y7, y8, y9], [], M1) o
      cases h
      exact mm_R_retv rfl rfl hA
    exact hp z2 z3 z4
  · replace h := mm_iq hc h
    refine mm_Runs.seq (l := [(87, .aload_n 0, 1), (88, .getfield 113, 3), (91, .putfield 113, 3), (94, .iconst 0, 1), (95, .istore 6, 2)]) (S2 := (97, [some (.ref 84), some (.int v1), z2, z3, z4, some (.int v5), some (.int (0 : Int32))], [], (mm_pi (mm_pi M 84 10 s1) 84 11 (M.1 84 11)))) (by decide +kernel) (hO := mm_own_196) rfl ?_
    have hp : mp_196_97 L xs (d + 1) v1 v5 (0 : Int32) (mm_pi (mm_pi M 84 10 s1) 84 11 (M.1 84 11)) o := by
      refine ms_196_L97 hd h hA (fun r11 M10 h => ?_)
      intro y12 y13 y14 y15 y16 y17 y18
      show mm_Runs L xs (d + 1) 196 (133, [y12, y13, y14, y15, y16, y17, y18], [], M10) o
      cases h
      exact mm_R_retv rfl rfl hA
    exact hp z2 z3 z4
noncomputable def mf_196_j30 (v1 : Int32) (v2 : Int64) (M : mm_M) : mm_O Unit := if (M.1 84 7) = 0 then (if (M.1 84 10) < v1 then (mf_196_j69 v1 v2.toInt32 v1 (mm_pi M 84 9 ((M.1 84 9) + (1 : Int32)))) else (mf_196_j69 v1 v2.toInt32 (M.1 84 10) (mm_pi M 84 9 ((M.1 84 9) + (1 : Int32))))) else (some (.inl (), M))
set_option maxRecDepth 8000 in
set_option maxHeartbeats 4000000 in
theorem ms_196_j30 {L : Nat} {xs : Nat → Int32} {d : Nat} (hd : 2 ≤ d) {v1 : Int32} {v2 : Int64} {M : mm_M} {q : (Unit ⊕ Nat) × mm_M} {o : mm_E} (h : mf_196_j30 v1 v2 M = some q) (hA : mm_A (mm_Kr mm_wv) q o) : mp_196_30 L xs d v1 v2 M o := by
  unfold mf_196_j30 at h
  obtain ⟨d, rfl⟩ := mm_d1 (n := 1) hd
  intro z3 z4 z5 z6
  show mm_Runs L xs (d + 1) 196 (30, [some (.ref 84), some (.int v1), some (.long v2), z3, z4, z5, z6], [], M) o
  refine mm_Runs.seq (l := [(30, .aload_n 0, 1), (31, .getfield 154, 3)]) (S2 := (34, [some (.ref 84), some (.int v1), some (.long v2), z3, z4, z5, z6], [.int (M.1 84 7)], M)) (by decide +kernel) (hO := mm_own_196) rfl ?_
  refine mm_R_zeq (t := 38) rfl rfl rfl (fun hc => ?_) (fun hc => ?_)
  · replace h := mm_ip hc h
    refine mm_Runs.seq (l := [(38, .lload_n 2, 1), (39, .l2i, 1), (40, .istore 5, 2), (42, .aload_n 0, 1), (43, .dup, 1), (44, .getfield 107, 3), (47, .iconst 1, 1), (48, .iadd, 1), (49, .putfield 107, 3), (52, .aload_n 0, 1), (53, .iload_n 1, 1), (54, .aload_n 0, 1), (55, .getfield 110, 3)]) (S2 := (58, [some (.ref 84), some (.int v1), some (.long v2), z3, (mm_no2 z4), some (.int v2.toInt32), z6], [.int (M.1 84 10), .int v1, .ref 84], (mm_pi M 84 9 ((M.1 84 9) + (1 : Int32))))) (by decide +kernel) (hO := mm_own_196) rfl ?_
    refine mm_R_ile (t := 65) rfl rfl rfl (fun hc => ?_) (fun hc => ?_)
    · replace h := mm_ip hc h
      refine mm_Runs.seq (l := [(61, .iload_n 1, 1), (62, .goto 7, 3)]) (S2 := (69, [some (.ref 84), some (.int v1), some (.long v2), z3, (mm_no2 z4), some (.int v2.toInt32), z6], [.int v1, .ref 84], (mm_pi M 84 9 ((M.1 84 9) + (1 : Int32))))) (by decide +kernel) (hO := mm_own_196) rfl ?_
      exact (ms_196_j69 hd h hA : mp_196_69 L xs (d + 1) v1 v2.toInt32 v1 (mm_pi M 84 9 ((M.1 84 9) + (1 : Int32))) o) (some (.long v2)) z3 ((mm_no2 z4)) z6
    · replace h := mm_iq hc h
      refine mm_Runs.seq (l := [(65, .aload_n 0, 1), (66, .getfield 110, 3)]) (S2 := (69, [some (.ref 84), some (.int v1), some (.long v2), z3, (mm_no2 z4), some (.int v2.toInt32), z6], [.int (M.1 84 10), .ref 84], (mm_pi M 84 9 ((M.1 84 9) + (1 : Int32))))) (by decide +kernel) (hO := mm_own_196) rfl ?_
      exact (ms_196_j69 hd h hA : mp_196_69 L xs (d + 1) v1 v2.toInt32 (M.1 84 10) (mm_pi M 84 9 ((M.1 84 9) + (1 : Int32))) o) (some (.long v2)) z3 ((mm_no2 z4)) z6
  · replace h := mm_iq hc h
    cases h
    exact mm_R_retv rfl rfl hA
noncomputable def mf_196_j26 (v1 : Int32) (v2 : Int64) (M : mm_M) : mm_O Unit := mm_B (mf_190 M) (fun _ M1 => mf_196_j30 v1 v2 M1)
set_option maxRecDepth 8000 in
set_option maxHeartbeats 4000000 in
theorem ms_196_j26 {L : Nat} {xs : Nat → Int32} {d : Nat} (hd : 2 ≤ d) {v1 : Int32} {v2 : Int64} {M : mm_M} {q : (Unit ⊕ Nat) × mm_M} {o : mm_E} (h : mf_196_j26 v1 v2 M = some q) (hA : mm_A (mm_Kr mm_wv) q o) : mp_196_26 L xs d v1 v2 M o := by
  unfold mf_196_j26 at h
  obtain ⟨d, rfl⟩ := mm_d1 (n := 1) hd
  intro z3 z4 z5 z6
  show mm_Runs L xs (d + 1) 196 (26, [some (.ref 84), some (.int v1), some (.long v2), z3, z4, z5, z6], [], M) o
  refine mm_Runs.seq (l := [(26, .aload_n 0, 1)]) (S2 := (27, [some (.ref 84), some (.int v1), some (.long v2), z3, z4, z5, z6], [.ref 84], M)) (by decide +kernel) (hO := mm_own_196) rfl ?_
  refine mm_R_call (v := mm_wv) h hA (k2 := 190) (as := [.ref 84]) (r := []) rfl (fun _ => rfl) (fun q hq o ho => ms_190 (by omega) hq ho) (fun _ M1 h => ?_)
  show mm_Runs L xs (d + 1) 196 (30, [some (.ref 84), some (.int v1), some (.long v2), z3, z4, z5, z6], [], M1) o
  exact (ms_196_j30 hd h hA : mp_196_30 L xs (d + 1) v1 v2 M1 o) z3 z4 z5 z6
noncomputable def mf_196 (v1 : Int32) (v2 : Int64) (v4 : Int32) (M : mm_M) : mm_O Unit := if (M.1 84 7) = 0 then (if v2 = (0 : Int64) then (mf_196_j26 v1 v2 M) else (if ((M.1 84 4) - v4).toInt64 < v2 then (mf_196_j26 v1 v2 M) else (mf_196_j30 v1 v2 M))) else (mf_196_j30 v1 v2 M)
set_option maxRecDepth 8000 in
set_option maxHeartbeats 4000000 in
theorem ms_196 {L : Nat} {xs : Nat → Int32} {d : Nat} (hd : 2 ≤ d) {v1 : Int32} {v2 : Int64} {v4 : Int32} {M : mm_M} {q : (Unit ⊕ Nat) × mm_M} {o : mm_E} (h : mf_196 v1 v2 v4 M = some q) (hA : mm_A (mm_Kr mm_wv) q o) : mm_Runs L xs d 196 (0, mm_ent (mm_ml 196) [.ref 84, .int v1, .long v2, .int v4], [], M) o := by
  unfold mf_196 at h
  obtain ⟨d, rfl⟩ := mm_d1 (n := 1) hd
  show mm_Runs L xs (d + 1) 196 (0, [some (.ref 84), some (.int v1), some (.long v2), none, some (.int v4), none, none], [], M) o
  refine mm_Runs.seq (l := [(0, .aload_n 0, 1), (1, .getfield 154, 3)]) (S2 := (4, [some (.ref 84), some (.int v1), some (.long v2), none, some (.int v4), none, none], [.int (M.1 84 7)], M)) (by decide +kernel) (hO := mm_own_196) rfl ?_
  refine mm_R_zne (t := 30) rfl rfl rfl (fun hc => ?_) (fun hc => ?_)
  · replace h := mm_ip hc h
    refine mm_Runs.seq (l := [(7, .lload_n 2, 1), (8, .lconst 0, 1)]) (S2 := (9, [some (.ref 84), some (.int v1), some (.long v2), none, some (.int v4), none, none], [.long (0 : Int64), .long v2], M)) (by decide +kernel) (hO := mm_own_196) rfl ?_
    refine mm_R_leq (t := 26) rfl rfl rfl rfl (fun hc => ?_) (fun hc => ?_)
    · replace h := mm_ip hc h
      exact (ms_196_j26 hd h hA : mp_196_26 L xs (d + 1) v1 v2 M o) none (some (.int v4)) none none
    · replace h := mm_iq hc h
      refine mm_Runs.seq (l := [(13, .lload_n 2, 1), (14, .aload_n 0, 1), (15, .getfield 98, 3), (18, .iload 4, 2), (20, .isub, 1), (21, .i2l, 1)]) (S2 := (22, [some (.ref 84), some (.int v1), some (.long v2), none, some (.int v4), none, none], [.long ((M.1 84 4) - v4).toInt64, .long v2], M)) (by decide +kernel) (hO := mm_own_196) rfl ?_
      refine mm_R_lle (t := 30) rfl rfl rfl rfl (fun hc => ?_) (fun hc => ?_)
      · replace h := mm_ip hc h
        exact (ms_196_j26 hd h hA : mp_196_26 L xs (d + 1) v1 v2 M o) none (some (.int v4)) none none
      · replace h := mm_iq hc h
        exact (ms_196_j30 hd h hA : mp_196_30 L xs (d + 1) v1 v2 M o) none (some (.int v4)) none none
  · replace h := mm_iq hc h
    exact (ms_196_j30 hd h hA : mp_196_30 L xs (d + 1) v1 v2 M o) none (some (.int v4)) none none
-- 209: PlainPacksModel.distanceTo(II)V (depth 4)
theorem mm_own_209 : mm_own 209 = 12 := rfl
def mp_209_27 (L : Nat) (xs : Nat → Int32) (d : Nat) (v1 : Int32) (v2 : Int32) (v3 : Int32) (M : mm_M) (o : mm_E) : Prop := ∀ z4 z5 : Option Value, mm_Runs L xs d 209 (27, [some (.ref 84), some (.int v1), some (.int v2), some (.int v3), z4, z5], [], M) o
def mp_209_49 (L : Nat) (xs : Nat → Int32) (d : Nat) (v1 : Int32) (v2 : Int32) (v3 : Int32) (s0 : Int32) (M : mm_M) (o : mm_E) : Prop := ∀ z4 z5 : Option Value, mm_Runs L xs d 209 (49, [some (.ref 84), some (.int v1), some (.int v2), some (.int v3), z4, z5], [.int s0], M) o
def mp_209_72 (L : Nat) (xs : Nat → Int32) (d : Nat) (v1 : Int32) (v2 : Int32) (v4 : Int32) (s0 : Int32) (M : mm_M) (o : mm_E) : Prop := ∀ z3 z5 : Option Value, mm_Runs L xs d 209 (72, [some (.ref 84), some (.int v1), some (.int v2), z3, some (.int v4), z5], [.int s0], M) o
def mp_209_103 (L : Nat) (xs : Nat → Int32) (d : Nat) (v1 : Int32) (v5 : Int32) (M : mm_M) (o : mm_E) : Prop := ∀ z2 z3 z4 : Option Value, mm_Runs L xs d 209 (103, [some (.ref 84), some (.int v1), z2, z3, z4, some (.int v5)], [], M) o
noncomputable def mf_209_j103 (v1 : Int32) (v5 : Int32) (M : mm_M) : mm_O Unit := mm_B (mf_196 v1 v5.toInt64 (0 : Int32) M) (fun _ M1 => some (.inl (), M1))
set_option maxRecDepth 8000 in
set_option maxHeartbeats 4000000 in
theorem ms_209_j103 {L : Nat} {xs : Nat → Int32} {d : Nat} (hd : 4 ≤ d) {v1 : Int32} {v5 : Int32} {M : mm_M} {q : (Unit ⊕ Nat) × mm_M} {o : mm_E} (h : mf_209_j103 v1 v5 M = some q) (hA : mm_A (mm_Kr mm_wv) q o) : mp_209_103 L xs d v1 v5 M o := by
  unfold mf_209_j103 at h
  obtain ⟨d, rfl⟩ := mm_d1 (n := 3) hd
  intro z2 z3 z4
  show mm_Runs L xs (d + 1) 209 (103, [some (.ref 84), some (.int v1), z2, z3, z4, some (.int v5)], [], M) o
  refine mm_Runs.seq (l := [(103, .aload_n 0, 1), (104, .iload_n 1, 1), (105, .iload 5, 2), (107, .i2l, 1), (108, .iconst 0, 1)]) (S2 := (109, [some (.ref 84), some (.int v1), z2, z3, z4, some (.int v5)], [.int (0 : Int32), .long v5.toInt64, .int v1, .ref 84], M)) (by decide +kernel) (hO := mm_own_209) rfl ?_
  refine mm_R_call (v := mm_wv) h hA (k2 := 196) (as := [.ref 84, .int v1, .long v5.toInt64, .int (0 : Int32)]) (r := []) rfl (fun _ => rfl) (fun q hq o ho => ms_196 (by omega) hq ho) (fun _ M1 h => ?_)
  show mm_Runs L xs (d + 1) 209 (112, [some (.ref 84), some (.int v1), z2, z3, z4, some (.int v5)], [], M1) o
  cases h
  exact mm_R_retv rfl rfl hA
noncomputable def mf_209_j72 (v1 : Int32) (v2 : Int32) (v4 : Int32) (s0 : Int32) (M : mm_M) : mm_O Unit := mm_B (mf_198 v4 M) (fun r1 M2 => if (M2.1 84 7) = 0 then (if v2 < (s0 + r1.toInt32) then (mm_B (mf_190 M2) (fun _ M3 => mf_209_j103 v1 (s0 + r1.toInt32) M3)) else (mf_209_j103 v1 (s0 + r1.toInt32) M2)) else (mf_209_j103 v1 (s0 + r1.toInt32) M2))
set_option maxRecDepth 8000 in
set_option maxHeartbeats 4000000 in
theorem ms_209_j72 {L : Nat} {xs : Nat → Int32} {d : Nat} (hd : 4 ≤ d) {v1 : Int32} {v2 : Int32} {v4 : Int32} {s0 : Int32} {M : mm_M} {q : (Unit ⊕ Nat) × mm_M} {o : mm_E} (h : mf_209_j72 v1 v2 v4 s0 M = some q) (hA : mm_A (mm_Kr mm_wv) q o) : mp_209_72 L xs d v1 v2 v4 s0 M o := by
  unfold mf_209_j72 at h
  obtain ⟨d, rfl⟩ := mm_d1 (n := 3) hd
  intro z3 z5
  show mm_Runs L xs (d + 1) 209 (72, [some (.ref 84), some (.int v1), some (.int v2), z3, some (.int v4), z5], [.int s0], M) o
  refine mm_Runs.seq (l := [(72, .istore 5, 2), (74, .iload 5, 2), (76, .aload_n 0, 1), (77, .iload 4, 2)]) (S2 := (79, [some (.ref 84), some (.int v1), some (.int v2), z3, some (.int v4), some (.int s0)], [.int v4, .ref 84, .int s0], M)) (by decide +kernel) (hO := mm_own_209) rfl ?_
  refine mm_R_call (v := mm_wl) h hA (k2 := 198) (as := [.ref 84, .int v4]) (r := [.int s0]) rfl (fun _ => rfl) (fun q hq o ho => ms_198 (by omega) hq ho) (fun r1 M2 h => ?_)
  show mm_Runs L xs (d + 1) 209 (82, [some (.ref 84), some (.int v1), some (.int v2), z3, some (.int v4), some (.int s0)], [.long r1, .int s0], M2) o
  refine mm_Runs.seq (l := [(82, .l2i, 1), (83, .iadd, 1), (84, .istore 5, 2), (86, .aload_n 0, 1), (87, .getfield 154, 3)]) (S2 := (90, [some (.ref 84), some (.int v1), some (.int v2), z3, some (.int v4), some (.int (s0 + r1.toInt32))], [.int (M2.1 84 7)], M2)) (by decide +kernel) (hO := mm_own_209) rfl ?_
  refine mm_R_zne (t := 103) rfl rfl rfl (fun hc => ?_) (fun hc => ?_)
  · replace h := mm_ip hc h
    refine mm_Runs.seq (l := [(93, .iload 5, 2), (95, .iload_n 2, 1)]) (S2 := (96, [some (.ref 84), some (.int v1), some (.int v2), z3, some (.int v4), some (.int (s0 + r1.toInt32))], [.int v2, .int (s0 + r1.toInt32)], M2)) (by decide +kernel) (hO := mm_own_209) rfl ?_
    refine mm_R_ile (t := 103) rfl rfl rfl (fun hc => ?_) (fun hc => ?_)
    · replace h := mm_ip hc h
      refine mm_Runs.seq (l := [(99, .aload_n 0, 1)]) (S2 := (100, [some (.ref 84), some (.int v1), some (.int v2), z3, some (.int v4), some (.int (s0 + r1.toInt32))], [.ref 84], M2)) (by decide +kernel) (hO := mm_own_209) rfl ?_
      refine mm_R_call (v := mm_wv) h hA (k2 := 190) (as := [.ref 84]) (r := []) rfl (fun _ => rfl) (fun q hq o ho => ms_190 (by omega) hq ho) (fun _ M3 h => ?_)
      show mm_Runs L xs (d + 1) 209 (103, [some (.ref 84), some (.int v1), some (.int v2), z3, some (.int v4), some (.int (s0 + r1.toInt32))], [], M3) o
      exact (ms_209_j103 hd h hA : mp_209_103 L xs (d + 1) v1 (s0 + r1.toInt32) M3 o) (some (.int v2)) z3 (some (.int v4))
    · replace h := mm_iq hc h
      exact (ms_209_j103 hd h hA : mp_209_103 L xs (d + 1) v1 (s0 + r1.toInt32) M2 o) (some (.int v2)) z3 (some (.int v4))
  · replace h := mm_iq hc h
    exact (ms_209_j103 hd h hA : mp_209_103 L xs (d + 1) v1 (s0 + r1.toInt32) M2 o) (some (.int v2)) z3 (some (.int v4))
noncomputable def mf_209_j49 (v1 : Int32) (v2 : Int32) (v3 : Int32) (s0 : Int32) (M : mm_M) : mm_O Unit := if v3 < (4 : Int32) then (mf_209_j72 v1 v2 s0 (v3 + (1 : Int32)) M) else (mf_209_j72 v1 v2 s0 ((1 : Int32) + (mm_shl ((2 : Int32) + (mm_rem v3 (2 : Int32))) s0)) M)
set_option maxRecDepth 8000 in
set_option maxHeartbeats 4000000 in
theorem ms_209_j49 {L : Nat} {xs : Nat → Int32} {d : Nat} (hd : 4 ≤ d) {v1 : Int32} {v2 : Int32} {v3 : Int32} {s0 : Int32} {M : mm_M} {q : (Unit ⊕ Nat) × mm_M} {o : mm_E} (h : mf_209_j49 v1 v2 v3 s0 M = some q) (hA : mm_A (mm_Kr mm_wv) q o) : mp_209_49 L xs d v1 v2 v3 s0 M o := by
  unfold mf_209_j49 at h
  obtain ⟨d, rfl⟩ := mm_d1 (n := 3) hd
  intro z4 z5
  show mm_Runs L xs (d + 1) 209 (49, [some (.ref 84), some (.int v1), some (.int v2), some (.int v3), z4, z5], [.int s0], M) o
  refine mm_Runs.seq (l := [(49, .istore 4, 2), (51, .iload_n 3, 1), (52, .iconst 4, 1)]) (S2 := (53, [some (.ref 84), some (.int v1), some (.int v2), some (.int v3), some (.int s0), z5], [.int (4 : Int32), .int v3], M)) (by decide +kernel) (hO := mm_own_209) rfl ?_
  refine mm_R_ige (t := 62) rfl rfl rfl (fun hc => ?_) (fun hc => ?_)
  · replace h := mm_ip hc h
    refine mm_Runs.seq (l := [(56, .iload_n 3, 1), (57, .iconst 1, 1), (58, .iadd, 1), (59, .goto 13, 3)]) (S2 := (72, [some (.ref 84), some (.int v1), some (.int v2), some (.int v3), some (.int s0), z5], [.int (v3 + (1 : Int32))], M)) (by decide +kernel) (hO := mm_own_209) rfl ?_
    exact (ms_209_j72 hd h hA : mp_209_72 L xs (d + 1) v1 v2 s0 (v3 + (1 : Int32)) M o) (some (.int v3)) z5
  · replace h := mm_iq hc h
    refine mm_Runs.seq (l := [(62, .iconst 1, 1), (63, .iconst 2, 1), (64, .iload_n 3, 1), (65, .iconst 2, 1), (66, .irem, 1), (67, .iadd, 1), (68, .iload 4, 2), (70, .ishl, 1), (71, .iadd, 1)]) (S2 := (72, [some (.ref 84), some (.int v1), some (.int v2), some (.int v3), some (.int s0), z5], [.int ((1 : Int32) + (mm_shl ((2 : Int32) + (mm_rem v3 (2 : Int32))) s0))], M)) (by decide +kernel) (hO := mm_own_209) rfl ?_
    exact (ms_209_j72 hd h hA : mp_209_72 L xs (d + 1) v1 v2 s0 ((1 : Int32) + (mm_shl ((2 : Int32) + (mm_rem v3 (2 : Int32))) s0)) M o) (some (.int v3)) z5
noncomputable def mf_209_j27 (v1 : Int32) (v2 : Int32) (v3 : Int32) (M : mm_M) : mm_O Unit := if (M.1 84 7) = 0 then (if v3 < (4 : Int32) then (mf_209_j49 v1 v2 v3 (0 : Int32) M) else (mf_209_j49 v1 v2 v3 ((v3 / (2 : Int32)) - (1 : Int32)) M)) else (some (.inl (), M))
set_option maxRecDepth 8000 in
set_option maxHeartbeats 4000000 in
theorem ms_209_j27 {L : Nat} {xs : Nat → Int32} {d : Nat} (hd : 4 ≤ d) {v1 : Int32} {v2 : Int32} {v3 : Int32} {M : mm_M} {q : (Unit ⊕ Nat) × mm_M} {o : mm_E} (h : mf_209_j27 v1 v2 v3 M = some q) (hA : mm_A (mm_Kr mm_wv) q o) : mp_209_27 L xs d v1 v2 v3 M o := by
  unfold mf_209_j27 at h
  obtain ⟨d, rfl⟩ := mm_d1 (n := 3) hd
  intro z4 z5
  show mm_Runs L xs (d + 1) 209 (27, [some (.ref 84), some (.int v1), some (.int v2), some (.int v3), z4, z5], [], M) o
  refine mm_Runs.seq (l := [(27, .aload_n 0, 1), (28, .getfield 154, 3)]) (S2 := (31, [some (.ref 84), some (.int v1), some (.int v2), some (.int v3), z4, z5], [.int (M.1 84 7)], M)) (by decide +kernel) (hO := mm_own_209) rfl ?_
  refine mm_R_zeq (t := 35) rfl rfl rfl (fun hc => ?_) (fun hc => ?_)
  · replace h := mm_ip hc h
    refine mm_Runs.seq (l := [(35, .iload_n 3, 1), (36, .iconst 4, 1)]) (S2 := (37, [some (.ref 84), some (.int v1), some (.int v2), some (.int v3), z4, z5], [.int (4 : Int32), .int v3], M)) (by decide +kernel) (hO := mm_own_209) rfl ?_
    refine mm_R_ige (t := 44) rfl rfl rfl (fun hc => ?_) (fun hc => ?_)
    · replace h := mm_ip hc h
      refine mm_Runs.seq (l := [(40, .iconst 0, 1), (41, .goto 8, 3)]) (S2 := (49, [some (.ref 84), some (.int v1), some (.int v2), some (.int v3), z4, z5], [.int (0 : Int32)], M)) (by decide +kernel) (hO := mm_own_209) rfl ?_
      exact (ms_209_j49 hd h hA : mp_209_49 L xs (d + 1) v1 v2 v3 (0 : Int32) M o) z4 z5
    · replace h := mm_iq hc h
      refine mm_Runs.seq (l := [(44, .iload_n 3, 1), (45, .iconst 2, 1), (46, .idiv, 1), (47, .iconst 1, 1), (48, .isub, 1)]) (S2 := (49, [some (.ref 84), some (.int v1), some (.int v2), some (.int v3), z4, z5], [.int ((v3 / (2 : Int32)) - (1 : Int32))], M)) (by decide +kernel) (hO := mm_own_209) rfl ?_
      exact (ms_209_j49 hd h hA : mp_209_49 L xs (d + 1) v1 v2 v3 ((v3 / (2 : Int32)) - (1 : Int32)) M o) z4 z5
  · replace h := mm_iq hc h
    cases h
    exact mm_R_retv rfl rfl hA
noncomputable def mf_209 (v1 : Int32) (v2 : Int32) (M : mm_M) : mm_O Unit := mm_B (mf_202 (1 : Int32) (M.1 84 21) M) (fun r1 M2 => if (M2.1 84 7) = 0 then (if (29 : Int32) < r1 then (mm_B (mf_190 M2) (fun _ M3 => mf_209_j27 v1 v2 r1 M3)) else (mf_209_j27 v1 v2 r1 M2)) else (mf_209_j27 v1 v2 r1 M2))
set_option maxRecDepth 8000 in
set_option maxHeartbeats 4000000 in
theorem ms_209 {L : Nat} {xs : Nat → Int32} {d : Nat} (hd : 4 ≤ d) {v1 : Int32} {v2 : Int32} {M : mm_M} {q : (Unit ⊕ Nat) × mm_M} {o : mm_E} (h : mf_209 v1 v2 M = some q) (hA : mm_A (mm_Kr mm_wv) q o) : mm_Runs L xs d 209 (0, mm_ent (mm_ml 209) [.ref 84, .int v1, .int v2], [], M) o := by
  unfold mf_209 at h
  obtain ⟨d, rfl⟩ := mm_d1 (n := 3) hd
  show mm_Runs L xs (d + 1) 209 (0, [some (.ref 84), some (.int v1), some (.int v2), none, none, none], [], M) o
  refine mm_Runs.seq (l := [(0, .aload_n 0, 1), (1, .iconst 1, 1), (2, .aload_n 0, 1), (3, .getfield 218, 3)]) (S2 := (6, [some (.ref 84), some (.int v1), some (.int v2), none, none, none], [.int (M.1 84 21), .int (1 : Int32), .ref 84], M)) (by decide +kernel) (hO := mm_own_209) rfl ?_
  refine mm_R_call (v := mm_wi) h hA (k2 := 202) (as := [.ref 84, .int (1 : Int32), .int (M.1 84 21)]) (r := []) rfl (fun _ => rfl) (fun q hq o ho => ms_202 (by omega) hq ho) (fun r1 M2 h => ?_)
  show mm_Runs L xs (d + 1) 209 (9, [some (.ref 84), some (.int v1), some (.int v2), none, none, none], [.int r1], M2) o
  refine mm_Runs.seq (l := [(9, .istore_n 3, 1), (10, .aload_n 0, 1), (11, .getfield 154, 3)]) (S2 := (14, [some (.ref 84), some (.int v1), some (.int v2), some (.int r1), none, none], [.int (M2.1 84 7)], M2)) (by decide +kernel) (hO := mm_own_209) rfl ?_
  refine mm_R_zne (t := 27) rfl rfl rfl (fun hc => ?_) (fun hc => ?_)
  · replace h := mm_ip hc h
    refine mm_Runs.seq (l := [(17, .iload_n 3, 1), (18, .bipush 29, 2)]) (S2 := (20, [some (.ref 84), some (.int v1), some (.int v2), some (.int r1), none, none], [.int (29 : Int32), .int r1], M2)) (by decide +kernel) (hO := mm_own_209) rfl ?_
    refine mm_R_ile (t := 27) rfl rfl rfl (fun hc => ?_) (fun hc => ?_)
    · replace h := mm_ip hc h
      refine mm_Runs.seq (l := [(23, .aload_n 0, 1)]) (S2 := (24, [some (.ref 84), some (.int v1), some (.int v2), some (.int r1), none, none], [.ref 84], M2)) (by decide +kernel) (hO := mm_own_209) rfl ?_
      refine mm_R_call (v := mm_wv) h hA (k2 := 190) (as := [.ref 84]) (r := []) rfl (fun _ => rfl) (fun q hq o ho => ms_190 (by omega) hq ho) (fun _ M3 h => ?_)
      show mm_Runs L xs (d + 1) 209 (27, [some (.ref 84), some (.int v1), some (.int v2), some (.int r1), none, none], [], M3) o
      exact (ms_209_j27 hd h hA : mp_209_27 L xs (d + 1) v1 v2 r1 M3 o) none none
    · replace h := mm_iq hc h
      exact (ms_209_j27 hd h hA : mp_209_27 L xs (d + 1) v1 v2 r1 M2 o) none none
  · replace h := mm_iq hc h
    exact (ms_209_j27 hd h hA : mp_209_27 L xs (d + 1) v1 v2 r1 M2 o) none none
-- 208: PlainPacksModel.lettersTo(I)V (depth 5)
theorem mm_own_208 : mm_own 208 = 12 := rfl
def mp_208_2 (L : Nat) (xs : Nat → Int32) (d : Nat) (v1 : Int32) (v2 : Int32) (M : mm_M) (o : mm_E) : Prop := ∀ z3 z4 z5 : Option Value, mm_Runs L xs d 208 (2, [some (.ref 84), some (.int v1), some (.int v2), z3, z4, z5], [], M) o
def mp_208_30 (L : Nat) (xs : Nat → Int32) (d : Nat) (M : mm_M) (o : mm_E) : Prop := ∀ z0 z1 z2 z3 z4 z5 : Option Value, mm_Runs L xs d 208 (30, [z0, z1, z2, z3, z4, z5], [], M) o
def mp_208_182 (L : Nat) (xs : Nat → Int32) (d : Nat) (M : mm_M) (o : mm_E) : Prop := ∀ z0 z1 z2 z3 z4 z5 : Option Value, mm_Runs L xs d 208 (182, [z0, z1, z2, z3, z4, z5], [], M) o
def mp_208_114 (L : Nat) (xs : Nat → Int32) (d : Nat) (v1 : Int32) (v2 : Int32) (v3 : Int32) (s0 : Int32) (M : mm_M) (o : mm_E) : Prop := ∀ z4 z5 : Option Value, mm_Runs L xs d 208 (114, [some (.ref 84), some (.int v1), some (.int v2), some (.int v3), z4, z5], [.int s0], M) o
def mp_208_158 (L : Nat) (xs : Nat → Int32) (d : Nat) (v1 : Int32) (v2 : Int32) (v4 : Int32) (s0 : Int32) (M : mm_M) (o : mm_E) : Prop := ∀ z3 z5 : Option Value, mm_Runs L xs d 208 (158, [some (.ref 84), some (.int v1), some (.int v2), z3, some (.int v4), z5], [.int s0], M) o
noncomputable def mf_208_j158 (v1 : Int32) (v2 : Int32) (v4 : Int32) (s0 : Int32) (M : mm_M) : mm_O ((Int32) ⊕ ((Unit) ⊕ (Unit))) := mm_B (mf_198 v4 M) (fun r1 M2 => mm_B (mf_209 (s0 + r1.toInt32) v1 M2) (fun _ M3 => some (.inl (.inl v2), M3)))
set_option maxRecDepth 8000 in
set_option maxHeartbeats 4000000 in
theorem ms_208_j158 {L : Nat} {xs : Nat → Int32} {d : Nat} (hd : 5 ≤ d) {v1 : Int32} {v2 : Int32} {v4 : Int32} {s0 : Int32} {M : mm_M} {q : (((Int32) ⊕ ((Unit) ⊕ (Unit))) ⊕ Nat) × mm_M} {o : mm_E} (h : mf_208_j158 v1 v2 v4 s0 M = some q) (hA : mm_A (mm_K2 (fun s M o => mp_208_2 L xs (d) v1 s M o) (fun r M o => mm_sm (fun r => mp_208_30 L xs (d) M o) (fun r => mp_208_182 L xs (d) M o) r)) q o) : mp_208_158 L xs d v1 v2 v4 s0 M o := by
  unfold mf_208_j158 at h
  obtain ⟨d, rfl⟩ := mm_d1 (n := 4) hd
  intro z3 z5
  show mm_Runs L xs (d + 1) 208 (158, [some (.ref 84), some (.int v1), some (.int v2), z3, some (.int v4), z5], [.int s0], M) o
  refine mm_Runs.seq (l := [(158, .istore 5, 2), (160, .iload 5, 2), (162, .aload_n 0, 1), (163, .iload 4, 2)]) (S2 := (165, [some (.ref 84), some (.int v1), some (.int v2), z3, some (.int v4), some (.int s0)], [.int v4, .ref 84, .int s0], M)) (by decide +kernel) (hO := mm_own_208) rfl ?_
  refine mm_R_call (v := mm_wl) h hA (k2 := 198) (as := [.ref 84, .int v4]) (r := [.int s0]) rfl (fun _ => rfl) (fun q hq o ho => ms_198 (by omega) hq ho) (fun r1 M2 h => ?_)
  show mm_Runs L xs (d + 1) 208 (168, [some (.ref 84), some (.int v1), some (.int v2), z3, some (.int v4), some (.int s0)], [.long r1, .int s0], M2) o
  refine mm_Runs.seq (l := [(168, .l2i, 1), (169, .iadd, 1), (170, .istore 5, 2), (172, .aload_n 0, 1), (173, .iload 5, 2), (175, .iload_n 1, 1)]) (S2 := (176, [some (.ref 84), some (.int v1), some (.int v2), z3, some (.int v4), some (.int (s0 + r1.toInt32))], [.int v1, .int (s0 + r1.toInt32), .ref 84], M2)) (by decide +kernel) (hO := mm_own_208) rfl ?_
  refine mm_R_call (v := mm_wv) h hA (k2 := 209) (as := [.ref 84, .int (s0 + r1.toInt32), .int v1]) (r := []) rfl (fun _ => rfl) (fun q hq o ho => ms_209 (by omega) hq ho) (fun _ M3 h => ?_)
  show mm_Runs L xs (d + 1) 208 (179, [some (.ref 84), some (.int v1), some (.int v2), z3, some (.int v4), some (.int (s0 + r1.toInt32))], [], M3) o
  refine mm_Runs.seq (l := [(179, .goto (-177), 3)]) (S2 := (2, [some (.ref 84), some (.int v1), some (.int v2), z3, some (.int v4), some (.int (s0 + r1.toInt32))], [], M3)) (by decide +kernel) (hO := mm_own_208) rfl ?_
  cases h
  exact (show mp_208_2 L xs (d + 1) v1 v2 M3 o from hA) z3 (some (.int v4)) (some (.int (s0 + r1.toInt32)))
noncomputable def mf_208_j114 (v1 : Int32) (v2 : Int32) (v3 : Int32) (s0 : Int32) (M : mm_M) : mm_O ((Int32) ⊕ ((Unit) ⊕ (Unit))) := if v3 < (265 : Int32) then (mf_208_j158 v1 v2 s0 (v3 - (254 : Int32)) M) else (if v3 = (285 : Int32) then (mf_208_j158 v1 v2 s0 (258 : Int32) M) else (mf_208_j158 v1 v2 s0 ((3 : Int32) + (mm_shl ((4 : Int32) + (mm_rem (v3 - (265 : Int32)) (4 : Int32))) s0)) M))
set_option maxRecDepth 8000 in
set_option maxHeartbeats 4000000 in
theorem ms_208_j114 {L : Nat} {xs : Nat → Int32} {d : Nat} (hd : 5 ≤ d) {v1 : Int32} {v2 : Int32} {v3 : Int32} {s0 : Int32} {M : mm_M} {q : (((Int32) ⊕ ((Unit) ⊕ (Unit))) ⊕ Nat) × mm_M} {o : mm_E} (h : mf_208_j114 v1 v2 v3 s0 M = some q) (hA : mm_A (mm_K2 (fun s M o => mp_208_2 L xs (d) v1 s M o) (fun r M o => mm_sm (fun r => mp_208_30 L xs (d) M o) (fun r => mp_208_182 L xs (d) M o) r)) q o) : mp_208_114 L xs d v1 v2 v3 s0 M o := by
  unfold mf_208_j114 at h
  obtain ⟨d, rfl⟩ := mm_d1 (n := 4) hd
  intro z4 z5
  show mm_Runs L xs (d + 1) 208 (114, [some (.ref 84), some (.int v1), some (.int v2), some (.int v3), z4, z5], [.int s0], M) o
  refine mm_Runs.seq (l := [(114, .istore 4, 2), (116, .iload_n 3, 1), (117, .sipush 265, 3)]) (S2 := (120, [some (.ref 84), some (.int v1), some (.int v2), some (.int v3), some (.int s0), z5], [.int (265 : Int32), .int v3], M)) (by decide +kernel) (hO := mm_own_208) rfl ?_
  refine mm_R_ige (t := 131) rfl rfl rfl (fun hc => ?_) (fun hc => ?_)
  · replace h := mm_ip hc h
    refine mm_Runs.seq (l := [(123, .iload_n 3, 1), (124, .sipush 254, 3), (127, .isub, 1), (128, .goto 30, 3)]) (S2 := (158, [some (.ref 84), some (.int v1), some (.int v2), some (.int v3), some (.int s0), z5], [.int (v3 - (254 : Int32))], M)) (by decide +kernel) (hO := mm_own_208) rfl ?_
    exact (ms_208_j158 hd h hA : mp_208_158 L xs (d + 1) v1 v2 s0 (v3 - (254 : Int32)) M o) (some (.int v3)) z5
  · replace h := mm_iq hc h
    refine mm_Runs.seq (l := [(131, .iload_n 3, 1), (132, .sipush 285, 3)]) (S2 := (135, [some (.ref 84), some (.int v1), some (.int v2), some (.int v3), some (.int s0), z5], [.int (285 : Int32), .int v3], M)) (by decide +kernel) (hO := mm_own_208) rfl ?_
    refine mm_R_ine (t := 144) rfl rfl rfl (fun hc => ?_) (fun hc => ?_)
    · replace h := mm_ip hc h
      refine mm_Runs.seq (l := [(138, .sipush 258, 3), (141, .goto 17, 3)]) (S2 := (158, [some (.ref 84), some (.int v1), some (.int v2), some (.int v3), some (.int s0), z5], [.int (258 : Int32)], M)) (by decide +kernel) (hO := mm_own_208) rfl ?_
      exact (ms_208_j158 hd h hA : mp_208_158 L xs (d + 1) v1 v2 s0 (258 : Int32) M o) (some (.int v3)) z5
    · replace h := mm_iq hc h
      refine mm_Runs.seq (l := [(144, .iconst 3, 1), (145, .iconst 4, 1), (146, .iload_n 3, 1), (147, .sipush 265, 3), (150, .isub, 1), (151, .iconst 4, 1), (152, .irem, 1), (153, .iadd, 1), (154, .iload 4, 2), (156, .ishl, 1), (157, .iadd, 1)]) (S2 := (158, [some (.ref 84), some (.int v1), some (.int v2), some (.int v3), some (.int s0), z5], [.int ((3 : Int32) + (mm_shl ((4 : Int32) + (mm_rem (v3 - (265 : Int32)) (4 : Int32))) s0))], M)) (by decide +kernel) (hO := mm_own_208) rfl ?_
      exact (ms_208_j158 hd h hA : mp_208_158 L xs (d + 1) v1 v2 s0 ((3 : Int32) + (mm_shl ((4 : Int32) + (mm_rem (v3 - (265 : Int32)) (4 : Int32))) s0)) M o) (some (.int v3)) z5
noncomputable def mf_208_b2 (v1 : Int32) (v2 : Int32) (M : mm_M) : mm_O ((Int32) ⊕ ((Unit) ⊕ (Unit))) := if v2 = 0 then (some (.inl (.inr (.inr ())), M)) else (if (M.1 84 7) = 0 then (mm_B (mf_202 (0 : Int32) (M.1 84 20) M) (fun r1 M2 => if (M2.1 84 7) = 0 then (if r1 < (256 : Int32) then (mm_B (mf_194 r1 M2) (fun r3 M4 => if r3 = 0 then (some (.inl (.inl v2), (mm_pi M4 84 8 ((M2.1 84 8) + (0 : Int32))))) else (some (.inl (.inl v2), (mm_pi M4 84 8 ((M2.1 84 8) + (1 : Int32))))))) else (if r1 = (256 : Int32) then (some (.inl (.inl (0 : Int32)), M2)) else (if (285 : Int32) < r1 then (mm_B (mf_190 M2) (fun _ M5 => some (.inl (.inl v2), M5))) else (if r1 < (265 : Int32) then (mf_208_j114 v1 v2 r1 (0 : Int32) M2) else (if r1 = (285 : Int32) then (mf_208_j114 v1 v2 r1 (0 : Int32) M2) else (mf_208_j114 v1 v2 r1 ((r1 - (261 : Int32)) / (4 : Int32)) M2)))))) else (some (.inl (.inr (.inl ())), M2)))) else (some (.inl (.inr (.inr ())), M)))
noncomputable def mf_208_L2 (v1 : Int32) (s : Int32) (M : mm_M) : mm_O ((Unit) ⊕ (Unit)) := mm_L (fun s M => mf_208_b2 v1 s M) s M
set_option maxRecDepth 8000 in
set_option maxHeartbeats 4000000 in
theorem ms_208_b2 {L : Nat} {xs : Nat → Int32} {d : Nat} (hd : 5 ≤ d) {v1 : Int32} {v2 : Int32} {M : mm_M} {q : (((Int32) ⊕ ((Unit) ⊕ (Unit))) ⊕ Nat) × mm_M} {o : mm_E} (h : mf_208_b2 v1 v2 M = some q) (hA : mm_A (mm_K2 (fun s M o => mp_208_2 L xs (d) v1 s M o) (fun r M o => mm_sm (fun r => mp_208_30 L xs (d) M o) (fun r => mp_208_182 L xs (d) M o) r)) q o) : mp_208_2 L xs d v1 v2 M o := by
  unfold mf_208_b2 at h
  obtain ⟨d, rfl⟩ := mm_d1 (n := 4) hd
  intro z3 z4 z5
  show mm_Runs L xs (d + 1) 208 (2, [some (.ref 84), some (.int v1), some (.int v2), z3, z4, z5], [], M) o
  refine mm_Runs.seq (l := [(2, .iload_n 2, 1)]) (S2 := (3, [some (.ref 84), some (.int v1), some (.int v2), z3, z4, z5], [.int v2], M)) (by decide +kernel) (hO := mm_own_208) rfl ?_
  refine mm_R_zeq (t := 182) rfl rfl rfl (fun hc => ?_) (fun hc => ?_)
  · replace h := mm_ip hc h
    cases h
    exact (show mp_208_182 L xs (d + 1) M o from hA) (some (.ref 84)) (some (.int v1)) (some (.int v2)) z3 z4 z5
  · replace h := mm_iq hc h
    refine mm_Runs.seq (l := [(6, .aload_n 0, 1), (7, .getfield 154, 3)]) (S2 := (10, [some (.ref 84), some (.int v1), some (.int v2), z3, z4, z5], [.int (M.1 84 7)], M)) (by decide +kernel) (hO := mm_own_208) rfl ?_
    refine mm_R_zne (t := 182) rfl rfl rfl (fun hc => ?_) (fun hc => ?_)
    · replace h := mm_ip hc h
      refine mm_Runs.seq (l := [(13, .aload_n 0, 1), (14, .iconst 0, 1), (15, .aload_n 0, 1), (16, .getfield 215, 3)]) (S2 := (19, [some (.ref 84), some (.int v1), some (.int v2), z3, z4, z5], [.int (M.1 84 20), .int (0 : Int32), .ref 84], M)) (by decide +kernel) (hO := mm_own_208) rfl ?_
      refine mm_R_call (v := mm_wi) h hA (k2 := 202) (as := [.ref 84, .int (0 : Int32), .int (M.1 84 20)]) (r := []) rfl (fun _ => rfl) (fun q hq o ho => ms_202 (by omega) hq ho) (fun r1 M2 h => ?_)
      show mm_Runs L xs (d + 1) 208 (22, [some (.ref 84), some (.int v1), some (.int v2), z3, z4, z5], [.int r1], M2) o
      refine mm_Runs.seq (l := [(22, .istore_n 3, 1), (23, .aload_n 0, 1), (24, .getfield 154, 3)]) (S2 := (27, [some (.ref 84), some (.int v1), some (.int v2), some (.int r1), z4, z5], [.int (M2.1 84 7)], M2)) (by decide +kernel) (hO := mm_own_208) rfl ?_
      refine mm_R_zeq (t := 31) rfl rfl rfl (fun hc => ?_) (fun hc => ?_)
      · replace h := mm_ip hc h
        refine mm_Runs.seq (l := [(31, .iload_n 3, 1), (32, .sipush 256, 3)]) (S2 := (35, [some (.ref 84), some (.int v1), some (.int v2), some (.int r1), z4, z5], [.int (256 : Int32), .int r1], M2)) (by decide +kernel) (hO := mm_own_208) rfl ?_
        refine mm_R_ige (t := 63) rfl rfl rfl (fun hc => ?_) (fun hc => ?_)
        · replace h := mm_ip hc h
          refine mm_Runs.seq (l := [(38, .aload_n 0, 1), (39, .dup, 1), (40, .getfield 104, 3), (43, .aload_n 0, 1), (44, .iload_n 3, 1)]) (S2 := (45, [some (.ref 84), some (.int v1), some (.int v2), some (.int r1), z4, z5], [.int r1, .ref 84, .int (M2.1 84 8), .ref 84], M2)) (by decide +kernel) (hO := mm_own_208) rfl ?_
          refine mm_R_call (v := mm_wi) h hA (k2 := 194) (as := [.ref 84, .int r1]) (r := [.int (M2.1 84 8), .ref 84]) rfl (fun _ => rfl) (fun q hq o ho => ms_194 (by omega) hq ho) (fun r3 M4 h => ?_)
          show mm_Runs L xs (d + 1) 208 (48, [some (.ref 84), some (.int v1), some (.int v2), some (.int r1), z4, z5], [.int r3, .int (M2.1 84 8), .ref 84], M4) o
          refine mm_R_zeq (t := 55) rfl rfl rfl (fun hc => ?_) (fun hc => ?_)
          · replace h := mm_ip hc h
            refine mm_Runs.seq (l := [(55, .iconst 0, 1), (56, .iadd, 1), (57, .putfield 104, 3), (60, .goto 119, 3), (179, .goto (-177), 3)]) (S2 := (2, [some (.ref 84), some (.int v1), some (.int v2), some (.int r1), z4, z5], [], (mm_pi M4 84 8 ((M2.1 84 8) + (0 : Int32))))) (by decide +kernel) (hO := mm_own_208) rfl ?_
            cases h
            exact (show mp_208_2 L xs (d + 1) v1 v2 (mm_pi M4 84 8 ((M2.1 84 8) + (0 : Int32))) o from hA) (some (.int r1)) z4 z5
          · replace h := mm_iq hc h
            refine mm_Runs.seq (l := [(51, .iconst 1, 1), (52, .goto 4, 3), (56, .iadd, 1), (57, .putfield 104, 3), (60, .goto 119, 3), (179, .goto (-177), 3)]) (S2 := (2, [some (.ref 84), some (.int v1), some (.int v2), some (.int r1), z4, z5], [], (mm_pi M4 84 8 ((M2.1 84 8) + (1 : Int32))))) (by decide +kernel) (hO := mm_own_208) rfl ?_
            cases h
            exact (show mp_208_2 L xs (d + 1) v1 v2 (mm_pi M4 84 8 ((M2.1 84 8) + (1 : Int32))) o from hA) (some (.int r1)) z4 z5
        · replace h := mm_iq hc h
          refine mm_Runs.seq (l := [(63, .iload_n 3, 1), (64, .sipush 256, 3)]) (S2 := (67, [some (.ref 84), some (.int v1), some (.int v2), some (.int r1), z4, z5], [.int (256 : Int32), .int r1], M2)) (by decide +kernel) (hO := mm_own_208) rfl ?_
          refine mm_R_ine (t := 75) rfl rfl rfl (fun hc => ?_) (fun hc => ?_)
          · replace h := mm_ip hc h
            refine mm_Runs.seq (l := [(70, .iconst 0, 1), (71, .istore_n 2, 1), (72, .goto 107, 3), (179, .goto (-177), 3)]) (S2 := (2, [some (.ref 84), some (.int v1), some (.int (0 : Int32)), some (.int r1), z4, z5], [], M2)) (by decide +kernel) (hO := mm_own_208) rfl ?_
            cases h
            exact (show mp_208_2 L xs (d + 1) v1 (0 : Int32) M2 o from hA) (some (.int r1)) z4 z5
          · replace h := mm_iq hc h
            refine mm_Runs.seq (l := [(75, .iload_n 3, 1), (76, .sipush 285, 3)]) (S2 := (79, [some (.ref 84), some (.int v1), some (.int v2), some (.int r1), z4, z5], [.int (285 : Int32), .int r1], M2)) (by decide +kernel) (hO := mm_own_208) rfl ?_
            refine mm_R_ile (t := 89) rfl rfl rfl (fun hc => ?_) (fun hc => ?_)
            · replace h := mm_ip hc h
              refine mm_Runs.seq (l := [(82, .aload_n 0, 1)]) (S2 := (83, [some (.ref 84), some (.int v1), some (.int v2), some (.int r1), z4, z5], [.ref 84], M2)) (by decide +kernel) (hO := mm_own_208) rfl ?_
              refine mm_R_call (v := mm_wv) h hA (k2 := 190) (as := [.ref 84]) (r := []) rfl (fun _ => rfl) (fun q hq o ho => ms_190 (by omega) hq ho) (fun _ M5 h => ?_)
              show mm_Runs L xs (d + 1) 208 (86, [some (.ref 84), some (.int v1), some (.int v2), some (.int r1), z4, z5], [], M5) o
              refine mm_Runs.seq (l := [(86, .goto 93, 3), (179, .goto (-177), 3)]) (S2 := (2, [some (.ref 84), some (.int v1), some (.int v2), some (.int r1), z4, z5], [], M5)) (by decide +kernel) (hO := mm_own_208) rfl ?_
              cases h
              exact (show mp_208_2 L xs (d + 1) v1 v2 M5 o from hA) (some (.int r1)) z4 z5
            · replace h := mm_iq hc h
              refine mm_Runs.seq (l := [(89, .iload_n 3, 1), (90, .sipush 265, 3)]) (S2 := (93, [some (.ref 84), some (.int v1), some (.int v2), some (.int r1), z4, z5], [.int (265 : Int32), .int r1], M2)) (by decide +kernel) (hO := mm_own_208) rfl ?_
              refine mm_R_ilt (t := 103) rfl rfl rfl (fun hc => ?_) (fun hc => ?_)
              · replace h := mm_ip hc h
                refine mm_Runs.seq (l := [(103, .iconst 0, 1), (104, .goto 10, 3)]) (S2 := (114, [some (.ref 84), some (.int v1), some (.int v2), some (.int r1), z4, z5], [.int (0 : Int32)], M2)) (by decide +kernel) (hO := mm_own_208) rfl ?_
                exact (ms_208_j114 hd h hA : mp_208_114 L xs (d + 1) v1 v2 r1 (0 : Int32) M2 o) z4 z5
              · replace h := mm_iq hc h
                refine mm_Runs.seq (l := [(96, .iload_n 3, 1), (97, .sipush 285, 3)]) (S2 := (100, [some (.ref 84), some (.int v1), some (.int v2), some (.int r1), z4, z5], [.int (285 : Int32), .int r1], M2)) (by decide +kernel) (hO := mm_own_208) rfl ?_
                refine mm_R_ine (t := 107) rfl rfl rfl (fun hc => ?_) (fun hc => ?_)
                · replace h := mm_ip hc h
                  refine mm_Runs.seq (l := [(103, .iconst 0, 1), (104, .goto 10, 3)]) (S2 := (114, [some (.ref 84), some (.int v1), some (.int v2), some (.int r1), z4, z5], [.int (0 : Int32)], M2)) (by decide +kernel) (hO := mm_own_208) rfl ?_
                  exact (ms_208_j114 hd h hA : mp_208_114 L xs (d + 1) v1 v2 r1 (0 : Int32) M2 o) z4 z5
                · replace h := mm_iq hc h
                  refine mm_Runs.seq (l := [(107, .iload_n 3, 1), (108, .sipush 261, 3), (111, .isub, 1), (112, .iconst 4, 1), (113, .idiv, 1)]) (S2 := (114, [some (.ref 84), some (.int v1), some (.int v2), some (.int r1), z4, z5], [.int ((r1 - (261 : Int32)) / (4 : Int32))], M2)) (by decide +kernel) (hO := mm_own_208) rfl ?_
                  exact (ms_208_j114 hd h hA : mp_208_114 L xs (d + 1) v1 v2 r1 ((r1 - (261 : Int32)) / (4 : Int32)) M2 o) z4 z5
      · replace h := mm_iq hc h
        cases h
        exact (show mp_208_30 L xs (d + 1) M2 o from hA) (some (.ref 84)) (some (.int v1)) (some (.int v2)) (some (.int r1)) z4 z5
    · replace h := mm_iq hc h
      cases h
      exact (show mp_208_182 L xs (d + 1) M o from hA) (some (.ref 84)) (some (.int v1)) (some (.int v2)) z3 z4 z5
theorem ms_208_L2 {L : Nat} {xs : Nat → Int32} {d : Nat} (hd : 5 ≤ d) {v1 : Int32} {v2 : Int32} {β : Type} {K : β → mm_M → mm_E → Prop} {F : ((Unit) ⊕ (Unit)) → mm_M → mm_O β} {M : mm_M} {q : (β ⊕ Nat) × mm_M} {o : mm_E} (h : mm_B (mf_208_L2 v1 v2 M) F = some q) (hA : mm_A K q o) (hx : ∀ (r : ((Unit) ⊕ (Unit))) (M2 : mm_M), F r M2 = some q → (fun r M o => mm_sm (fun r => mp_208_30 L xs (d) M o) (fun r => mp_208_182 L xs (d) M o) r) r M2 o) : mp_208_2 L xs d v1 v2 M o := mm_R_loop (s := v2) (M := M) (P := (fun s M o => mp_208_2 L xs (d) v1 s M o)) (X := (fun r M o => mm_sm (fun r => mp_208_30 L xs (d) M o) (fun r => mp_208_182 L xs (d) M o) r)) h hA (fun s M q hq hA => ms_208_b2 hd hq hA) hx
noncomputable def mf_208 (v1 : Int32) (M : mm_M) : mm_O Unit := mm_B (mf_208_L2 v1 (1 : Int32) M) (fun r2 M1 => mm_sm (fun r2 => some (.inl (), M1)) (fun r2 => some (.inl (), M1)) r2)
set_option maxRecDepth 8000 in
set_option maxHeartbeats 4000000 in
theorem ms_208 {L : Nat} {xs : Nat → Int32} {d : Nat} (hd : 5 ≤ d) {v1 : Int32} {M : mm_M} {q : (Unit ⊕ Nat) × mm_M} {o : mm_E} (h : mf_208 v1 M = some q) (hA : mm_A (mm_Kr mm_wv) q o) : mm_Runs L xs d 208 (0, mm_ent (mm_ml 208) [.ref 84, .int v1], [], M) o := by
  unfold mf_208 at h
  obtain ⟨d, rfl⟩ := mm_d1 (n := 4) hd
  show mm_Runs L xs (d + 1) 208 (0, [some (.ref 84), some (.int v1), none, none, none, none], [], M) o
  refine mm_Runs.seq (l := [(0, .iconst 1, 1), (1, .istore_n 2, 1)]) (S2 := (2, [some (.ref 84), some (.int v1), some (.int (1 : Int32)), none, none, none], [], M)) (by decide +kernel) (hO := mm_own_208) rfl ?_
  have hp : mp_208_2 L xs (d + 1) v1 (1 : Int32) M o := by
    refine ms_208_L2 hd h hA (fun r2 M1 h => ?_)
    rcases r2 with r2 | r2
    · dsimp only [mm_sm] at h
      intro y3 y4 y5 y6 y7 y8
      show mm_Runs L xs (d + 1) 208 (30, [y3, y4, y5, y6, y7, y8], [], M1) o
      cases h
      exact mm_R_retv rfl rfl hA
    · dsimp only [mm_sm] at h
      intro y9 y10 y11 y12 y13 y14
      show mm_Runs L xs (d + 1) 208 (182, [y9, y10, y11, y12, y13, y14], [], M1) o
      cases h
      exact mm_R_retv rfl rfl hA
  exact hp none none none
-- 203: PlainPacksModel.blocksTo(I)V (depth 6)
theorem mm_own_203 : mm_own 203 = 12 := rfl
def mp_203_12 (L : Nat) (xs : Nat → Int32) (d : Nat) (v1 : Int32) (v2 : Int32) (M : mm_M) (o : mm_E) : Prop := ∀ z3 : Option Value, mm_Runs L xs d 203 (12, [some (.ref 84), some (.int v1), some (.int v2), z3], [], M) o
def mp_203_69 (L : Nat) (xs : Nat → Int32) (d : Nat) (M : mm_M) (o : mm_E) : Prop := ∀ z0 z1 z2 z3 : Option Value, mm_Runs L xs d 203 (69, [z0, z1, z2, z3], [], M) o
def mp_203_115 (L : Nat) (xs : Nat → Int32) (d : Nat) (M : mm_M) (o : mm_E) : Prop := ∀ z1 z2 z3 : Option Value, mm_Runs L xs d 203 (115, [some (.ref 84), z1, z2, z3], [], M) o
def mp_203_38 (L : Nat) (xs : Nat → Int32) (d : Nat) (v1 : Int32) (s0 : Int32) (M : mm_M) (o : mm_E) : Prop := ∀ z2 z3 : Option Value, mm_Runs L xs d 203 (38, [some (.ref 84), some (.int v1), z2, z3], [.int s0], M) o
def mp_203_62 (L : Nat) (xs : Nat → Int32) (d : Nat) (v1 : Int32) (v2 : Int32) (v3 : Int32) (M : mm_M) (o : mm_E) : Prop := mm_Runs L xs d 203 (62, [some (.ref 84), some (.int v1), some (.int v2), some (.int v3)], [], M) o
def mp_203_107 (L : Nat) (xs : Nat → Int32) (d : Nat) (v1 : Int32) (v2 : Int32) (M : mm_M) (o : mm_E) : Prop := ∀ z3 : Option Value, mm_Runs L xs d 203 (107, [some (.ref 84), some (.int v1), some (.int v2), z3], [], M) o
noncomputable def mf_203_j107 (v1 : Int32) (v2 : Int32) (M : mm_M) : mm_O ((Int32) ⊕ ((Unit) ⊕ (Unit))) := mm_B (mf_208 v1 M) (fun _ M1 => some (.inl (.inl v2), M1))
set_option maxRecDepth 8000 in
set_option maxHeartbeats 4000000 in
theorem ms_203_j107 {L : Nat} {xs : Nat → Int32} {d : Nat} (hd : 6 ≤ d) {v1 : Int32} {v2 : Int32} {M : mm_M} {q : (((Int32) ⊕ ((Unit) ⊕ (Unit))) ⊕ Nat) × mm_M} {o : mm_E} (h : mf_203_j107 v1 v2 M = some q) (hA : mm_A (mm_K2 (fun s M o => mp_203_12 L xs (d) v1 s M o) (fun r M o => mm_sm (fun r => mp_203_69 L xs (d) M o) (fun r => mp_203_115 L xs (d) M o) r)) q o) : mp_203_107 L xs d v1 v2 M o := by
  unfold mf_203_j107 at h
  obtain ⟨d, rfl⟩ := mm_d1 (n := 5) hd
  intro z3
  show mm_Runs L xs (d + 1) 203 (107, [some (.ref 84), some (.int v1), some (.int v2), z3], [], M) o
  refine mm_Runs.seq (l := [(107, .aload_n 0, 1), (108, .iload_n 1, 1)]) (S2 := (109, [some (.ref 84), some (.int v1), some (.int v2), z3], [.int v1, .ref 84], M)) (by decide +kernel) (hO := mm_own_203) rfl ?_
  refine mm_R_call (v := mm_wv) h hA (k2 := 208) (as := [.ref 84, .int v1]) (r := []) rfl (fun _ => rfl) (fun q hq o ho => ms_208 (by omega) hq ho) (fun _ M1 h => ?_)
  show mm_Runs L xs (d + 1) 203 (112, [some (.ref 84), some (.int v1), some (.int v2), z3], [], M1) o
  refine mm_Runs.seq (l := [(112, .goto (-100), 3)]) (S2 := (12, [some (.ref 84), some (.int v1), some (.int v2), z3], [], M1)) (by decide +kernel) (hO := mm_own_203) rfl ?_
  cases h
  exact (show mp_203_12 L xs (d + 1) v1 v2 M1 o from hA) z3
noncomputable def mf_203_j62 (v1 : Int32) (v2 : Int32) (v3 : Int32) (M : mm_M) : mm_O ((Int32) ⊕ ((Unit) ⊕ (Unit))) := if (M.1 84 7) = 0 then (if v3 = 0 then (mm_B (mf_204 (mm_pi M 84 12 ((M.1 84 12) + (1 : Int32)))) (fun _ M1 => some (.inl (.inl v2), M1))) else (if v3 = (1 : Int32) then (mm_B (mf_205 (mm_pi M 84 12 ((M.1 84 12) + (1 : Int32)))) (fun _ M2 => mf_203_j107 v1 v2 M2)) else (mm_B (mf_206 (mm_pi M 84 12 ((M.1 84 12) + (1 : Int32)))) (fun _ M3 => mf_203_j107 v1 v2 M3)))) else (some (.inl (.inr (.inl ())), M))
set_option maxRecDepth 8000 in
set_option maxHeartbeats 4000000 in
theorem ms_203_j62 {L : Nat} {xs : Nat → Int32} {d : Nat} (hd : 6 ≤ d) {v1 : Int32} {v2 : Int32} {v3 : Int32} {M : mm_M} {q : (((Int32) ⊕ ((Unit) ⊕ (Unit))) ⊕ Nat) × mm_M} {o : mm_E} (h : mf_203_j62 v1 v2 v3 M = some q) (hA : mm_A (mm_K2 (fun s M o => mp_203_12 L xs (d) v1 s M o) (fun r M o => mm_sm (fun r => mp_203_69 L xs (d) M o) (fun r => mp_203_115 L xs (d) M o) r)) q o) : mp_203_62 L xs d v1 v2 v3 M o := by
  unfold mf_203_j62 at h
  obtain ⟨d, rfl⟩ := mm_d1 (n := 5) hd
  show mm_Runs L xs (d + 1) 203 (62, [some (.ref 84), some (.int v1), some (.int v2), some (.int v3)], [], M) o
  refine mm_Runs.seq (l := [(62, .aload_n 0, 1), (63, .getfield 154, 3)]) (S2 := (66, [some (.ref 84), some (.int v1), some (.int v2), some (.int v3)], [.int (M.1 84 7)], M)) (by decide +kernel) (hO := mm_own_203) rfl ?_
  refine mm_R_zeq (t := 70) rfl rfl rfl (fun hc => ?_) (fun hc => ?_)
  · replace h := mm_ip hc h
    refine mm_Runs.seq (l := [(70, .aload_n 0, 1), (71, .dup, 1), (72, .getfield 116, 3), (75, .iconst 1, 1), (76, .iadd, 1), (77, .putfield 116, 3), (80, .iload_n 3, 1)]) (S2 := (81, [some (.ref 84), some (.int v1), some (.int v2), some (.int v3)], [.int v3], (mm_pi M 84 12 ((M.1 84 12) + (1 : Int32))))) (by decide +kernel) (hO := mm_own_203) rfl ?_
    refine mm_R_zne (t := 91) rfl rfl rfl (fun hc => ?_) (fun hc => ?_)
    · replace h := mm_ip hc h
      refine mm_Runs.seq (l := [(84, .aload_n 0, 1)]) (S2 := (85, [some (.ref 84), some (.int v1), some (.int v2), some (.int v3)], [.ref 84], (mm_pi M 84 12 ((M.1 84 12) + (1 : Int32))))) (by decide +kernel) (hO := mm_own_203) rfl ?_
      refine mm_R_call (v := mm_wv) h hA (k2 := 204) (as := [.ref 84]) (r := []) rfl (fun _ => rfl) (fun q hq o ho => ms_204 (by omega) hq ho) (fun _ M1 h => ?_)
      show mm_Runs L xs (d + 1) 203 (88, [some (.ref 84), some (.int v1), some (.int v2), some (.int v3)], [], M1) o
      refine mm_Runs.seq (l := [(88, .goto 24, 3), (112, .goto (-100), 3)]) (S2 := (12, [some (.ref 84), some (.int v1), some (.int v2), some (.int v3)], [], M1)) (by decide +kernel) (hO := mm_own_203) rfl ?_
      cases h
      exact (show mp_203_12 L xs (d + 1) v1 v2 M1 o from hA) (some (.int v3))
    · replace h := mm_iq hc h
      refine mm_Runs.seq (l := [(91, .iload_n 3, 1), (92, .iconst 1, 1)]) (S2 := (93, [some (.ref 84), some (.int v1), some (.int v2), some (.int v3)], [.int (1 : Int32), .int v3], (mm_pi M 84 12 ((M.1 84 12) + (1 : Int32))))) (by decide +kernel) (hO := mm_own_203) rfl ?_
      refine mm_R_ine (t := 103) rfl rfl rfl (fun hc => ?_) (fun hc => ?_)
      · replace h := mm_ip hc h
        refine mm_Runs.seq (l := [(96, .aload_n 0, 1)]) (S2 := (97, [some (.ref 84), some (.int v1), some (.int v2), some (.int v3)], [.ref 84], (mm_pi M 84 12 ((M.1 84 12) + (1 : Int32))))) (by decide +kernel) (hO := mm_own_203) rfl ?_
        refine mm_R_call (v := mm_wv) h hA (k2 := 205) (as := [.ref 84]) (r := []) rfl (fun _ => rfl) (fun q hq o ho => ms_205 (by omega) hq ho) (fun _ M2 h => ?_)
        show mm_Runs L xs (d + 1) 203 (100, [some (.ref 84), some (.int v1), some (.int v2), some (.int v3)], [], M2) o
        refine mm_Runs.seq (l := [(100, .goto 7, 3)]) (S2 := (107, [some (.ref 84), some (.int v1), some (.int v2), some (.int v3)], [], M2)) (by decide +kernel) (hO := mm_own_203) rfl ?_
        exact (ms_203_j107 hd h hA : mp_203_107 L xs (d + 1) v1 v2 M2 o) (some (.int v3))
      · replace h := mm_iq hc h
        refine mm_Runs.seq (l := [(103, .aload_n 0, 1)]) (S2 := (104, [some (.ref 84), some (.int v1), some (.int v2), some (.int v3)], [.ref 84], (mm_pi M 84 12 ((M.1 84 12) + (1 : Int32))))) (by decide +kernel) (hO := mm_own_203) rfl ?_
        refine mm_R_call (v := mm_wv) h hA (k2 := 206) (as := [.ref 84]) (r := []) rfl (fun _ => rfl) (fun q hq o ho => ms_206 (by omega) hq ho) (fun _ M3 h => ?_)
        show mm_Runs L xs (d + 1) 203 (107, [some (.ref 84), some (.int v1), some (.int v2), some (.int v3)], [], M3) o
        exact (ms_203_j107 hd h hA : mp_203_107 L xs (d + 1) v1 v2 M3 o) (some (.int v3))
  · replace h := mm_iq hc h
    cases h
    exact (show mp_203_69 L xs (d + 1) M o from hA) (some (.ref 84)) (some (.int v1)) (some (.int v2)) (some (.int v3))
noncomputable def mf_203_j38 (v1 : Int32) (s0 : Int32) (M : mm_M) : mm_O ((Int32) ⊕ ((Unit) ⊕ (Unit))) := mm_B (mf_198 (2 : Int32) M) (fun r1 M2 => if (M2.1 84 7) = 0 then (if r1.toInt32 = (3 : Int32) then (mm_B (mf_190 M2) (fun _ M3 => mf_203_j62 v1 s0 r1.toInt32 M3)) else (mf_203_j62 v1 s0 r1.toInt32 M2)) else (mf_203_j62 v1 s0 r1.toInt32 M2))
set_option maxRecDepth 8000 in
set_option maxHeartbeats 4000000 in
theorem ms_203_j38 {L : Nat} {xs : Nat → Int32} {d : Nat} (hd : 6 ≤ d) {v1 : Int32} {s0 : Int32} {M : mm_M} {q : (((Int32) ⊕ ((Unit) ⊕ (Unit))) ⊕ Nat) × mm_M} {o : mm_E} (h : mf_203_j38 v1 s0 M = some q) (hA : mm_A (mm_K2 (fun s M o => mp_203_12 L xs (d) v1 s M o) (fun r M o => mm_sm (fun r => mp_203_69 L xs (d) M o) (fun r => mp_203_115 L xs (d) M o) r)) q o) : mp_203_38 L xs d v1 s0 M o := by
  unfold mf_203_j38 at h
  obtain ⟨d, rfl⟩ := mm_d1 (n := 5) hd
  intro z2 z3
  show mm_Runs L xs (d + 1) 203 (38, [some (.ref 84), some (.int v1), z2, z3], [.int s0], M) o
  refine mm_Runs.seq (l := [(38, .istore_n 2, 1), (39, .aload_n 0, 1), (40, .iconst 2, 1)]) (S2 := (41, [some (.ref 84), some (.int v1), some (.int s0), z3], [.int (2 : Int32), .ref 84], M)) (by decide +kernel) (hO := mm_own_203) rfl ?_
  refine mm_R_call (v := mm_wl) h hA (k2 := 198) (as := [.ref 84, .int (2 : Int32)]) (r := []) rfl (fun _ => rfl) (fun q hq o ho => ms_198 (by omega) hq ho) (fun r1 M2 h => ?_)
  show mm_Runs L xs (d + 1) 203 (44, [some (.ref 84), some (.int v1), some (.int s0), z3], [.long r1], M2) o
  refine mm_Runs.seq (l := [(44, .l2i, 1), (45, .istore_n 3, 1), (46, .aload_n 0, 1), (47, .getfield 154, 3)]) (S2 := (50, [some (.ref 84), some (.int v1), some (.int s0), some (.int r1.toInt32)], [.int (M2.1 84 7)], M2)) (by decide +kernel) (hO := mm_own_203) rfl ?_
  refine mm_R_zne (t := 62) rfl rfl rfl (fun hc => ?_) (fun hc => ?_)
  · replace h := mm_ip hc h
    refine mm_Runs.seq (l := [(53, .iload_n 3, 1), (54, .iconst 3, 1)]) (S2 := (55, [some (.ref 84), some (.int v1), some (.int s0), some (.int r1.toInt32)], [.int (3 : Int32), .int r1.toInt32], M2)) (by decide +kernel) (hO := mm_own_203) rfl ?_
    refine mm_R_ine (t := 62) rfl rfl rfl (fun hc => ?_) (fun hc => ?_)
    · replace h := mm_ip hc h
      refine mm_Runs.seq (l := [(58, .aload_n 0, 1)]) (S2 := (59, [some (.ref 84), some (.int v1), some (.int s0), some (.int r1.toInt32)], [.ref 84], M2)) (by decide +kernel) (hO := mm_own_203) rfl ?_
      refine mm_R_call (v := mm_wv) h hA (k2 := 190) (as := [.ref 84]) (r := []) rfl (fun _ => rfl) (fun q hq o ho => ms_190 (by omega) hq ho) (fun _ M3 h => ?_)
      show mm_Runs L xs (d + 1) 203 (62, [some (.ref 84), some (.int v1), some (.int s0), some (.int r1.toInt32)], [], M3) o
      exact (ms_203_j62 hd h hA : mp_203_62 L xs (d + 1) v1 s0 r1.toInt32 M3 o)
    · replace h := mm_iq hc h
      exact (ms_203_j62 hd h hA : mp_203_62 L xs (d + 1) v1 s0 r1.toInt32 M2 o)
  · replace h := mm_iq hc h
    exact (ms_203_j62 hd h hA : mp_203_62 L xs (d + 1) v1 s0 r1.toInt32 M2 o)
noncomputable def mf_203_b12 (v1 : Int32) (v2 : Int32) (M : mm_M) : mm_O ((Int32) ⊕ ((Unit) ⊕ (Unit))) := if (M.1 84 7) = 0 then (if v2 = 0 then (mm_B (mf_198 (1 : Int32) M) (fun r1 M2 => if r1 = (1 : Int64) then (mf_203_j38 v1 (1 : Int32) M2) else (mf_203_j38 v1 (0 : Int32) M2))) else (some (.inl (.inr (.inr ())), M))) else (some (.inl (.inr (.inr ())), M))
noncomputable def mf_203_L12 (v1 : Int32) (s : Int32) (M : mm_M) : mm_O ((Unit) ⊕ (Unit)) := mm_L (fun s M => mf_203_b12 v1 s M) s M
set_option maxRecDepth 8000 in
set_option maxHeartbeats 4000000 in
theorem ms_203_b12 {L : Nat} {xs : Nat → Int32} {d : Nat} (hd : 6 ≤ d) {v1 : Int32} {v2 : Int32} {M : mm_M} {q : (((Int32) ⊕ ((Unit) ⊕ (Unit))) ⊕ Nat) × mm_M} {o : mm_E} (h : mf_203_b12 v1 v2 M = some q) (hA : mm_A (mm_K2 (fun s M o => mp_203_12 L xs (d) v1 s M o) (fun r M o => mm_sm (fun r => mp_203_69 L xs (d) M o) (fun r => mp_203_115 L xs (d) M o) r)) q o) : mp_203_12 L xs d v1 v2 M o := by
  unfold mf_203_b12 at h
  obtain ⟨d, rfl⟩ := mm_d1 (n := 5) hd
  intro z3
  show mm_Runs L xs (d + 1) 203 (12, [some (.ref 84), some (.int v1), some (.int v2), z3], [], M) o
  refine mm_Runs.seq (l := [(12, .aload_n 0, 1), (13, .getfield 154, 3)]) (S2 := (16, [some (.ref 84), some (.int v1), some (.int v2), z3], [.int (M.1 84 7)], M)) (by decide +kernel) (hO := mm_own_203) rfl ?_
  refine mm_R_zne (t := 115) rfl rfl rfl (fun hc => ?_) (fun hc => ?_)
  · replace h := mm_ip hc h
    refine mm_Runs.seq (l := [(19, .iload_n 2, 1)]) (S2 := (20, [some (.ref 84), some (.int v1), some (.int v2), z3], [.int v2], M)) (by decide +kernel) (hO := mm_own_203) rfl ?_
    refine mm_R_zne (t := 115) rfl rfl rfl (fun hc => ?_) (fun hc => ?_)
    · replace h := mm_ip hc h
      refine mm_Runs.seq (l := [(23, .aload_n 0, 1), (24, .iconst 1, 1)]) (S2 := (25, [some (.ref 84), some (.int v1), some (.int v2), z3], [.int (1 : Int32), .ref 84], M)) (by decide +kernel) (hO := mm_own_203) rfl ?_
      refine mm_R_call (v := mm_wl) h hA (k2 := 198) (as := [.ref 84, .int (1 : Int32)]) (r := []) rfl (fun _ => rfl) (fun q hq o ho => ms_198 (by omega) hq ho) (fun r1 M2 h => ?_)
      show mm_Runs L xs (d + 1) 203 (28, [some (.ref 84), some (.int v1), some (.int v2), z3], [.long r1], M2) o
      refine mm_Runs.seq (l := [(28, .lconst 1, 1)]) (S2 := (29, [some (.ref 84), some (.int v1), some (.int v2), z3], [.long (1 : Int64), .long r1], M2)) (by decide +kernel) (hO := mm_own_203) rfl ?_
      refine mm_R_lne (t := 37) rfl rfl rfl rfl (fun hc => ?_) (fun hc => ?_)
      · replace h := mm_ip hc h
        refine mm_Runs.seq (l := [(33, .iconst 1, 1), (34, .goto 4, 3)]) (S2 := (38, [some (.ref 84), some (.int v1), some (.int v2), z3], [.int (1 : Int32)], M2)) (by decide +kernel) (hO := mm_own_203) rfl ?_
        exact (ms_203_j38 hd h hA : mp_203_38 L xs (d + 1) v1 (1 : Int32) M2 o) (some (.int v2)) z3
      · replace h := mm_iq hc h
        refine mm_Runs.seq (l := [(37, .iconst 0, 1)]) (S2 := (38, [some (.ref 84), some (.int v1), some (.int v2), z3], [.int (0 : Int32)], M2)) (by decide +kernel) (hO := mm_own_203) rfl ?_
        exact (ms_203_j38 hd h hA : mp_203_38 L xs (d + 1) v1 (0 : Int32) M2 o) (some (.int v2)) z3
    · replace h := mm_iq hc h
      cases h
      exact (show mp_203_115 L xs (d + 1) M o from hA) (some (.int v1)) (some (.int v2)) z3
  · replace h := mm_iq hc h
    cases h
    exact (show mp_203_115 L xs (d + 1) M o from hA) (some (.int v1)) (some (.int v2)) z3
theorem ms_203_L12 {L : Nat} {xs : Nat → Int32} {d : Nat} (hd : 6 ≤ d) {v1 : Int32} {v2 : Int32} {β : Type} {K : β → mm_M → mm_E → Prop} {F : ((Unit) ⊕ (Unit)) → mm_M → mm_O β} {M : mm_M} {q : (β ⊕ Nat) × mm_M} {o : mm_E} (h : mm_B (mf_203_L12 v1 v2 M) F = some q) (hA : mm_A K q o) (hx : ∀ (r : ((Unit) ⊕ (Unit))) (M2 : mm_M), F r M2 = some q → (fun r M o => mm_sm (fun r => mp_203_69 L xs (d) M o) (fun r => mp_203_115 L xs (d) M o) r) r M2 o) : mp_203_12 L xs d v1 v2 M o := mm_R_loop (s := v2) (M := M) (P := (fun s M o => mp_203_12 L xs (d) v1 s M o)) (X := (fun r M o => mm_sm (fun r => mp_203_69 L xs (d) M o) (fun r => mp_203_115 L xs (d) M o) r)) h hA (fun s M q hq hA => ms_203_b12 hd hq hA) hx
noncomputable def mf_203 (v1 : Int32) (M : mm_M) : mm_O Unit := mm_B (mf_203_L12 v1 (0 : Int32) (mm_pi (mm_pi M 84 13 (0 : Int32)) 84 15 (0 : Int32))) (fun r2 M1 => mm_sm (fun r2 => some (.inl (), M1)) (fun r2 => some (.inl (), (mm_pi M1 84 15 (0 : Int32)))) r2)
set_option maxRecDepth 8000 in
set_option maxHeartbeats 4000000 in
theorem ms_203 {L : Nat} {xs : Nat → Int32} {d : Nat} (hd : 6 ≤ d) {v1 : Int32} {M : mm_M} {q : (Unit ⊕ Nat) × mm_M} {o : mm_E} (h : mf_203 v1 M = some q) (hA : mm_A (mm_Kr mm_wv) q o) : mm_Runs L xs d 203 (0, mm_ent (mm_ml 203) [.ref 84, .int v1], [], M) o := by
  unfold mf_203 at h
  obtain ⟨d, rfl⟩ := mm_d1 (n := 5) hd
  show mm_Runs L xs (d + 1) 203 (0, [some (.ref 84), some (.int v1), none, none], [], M) o
  refine mm_Runs.seq (l := [(0, .aload_n 0, 1), (1, .iconst 0, 1), (2, .putfield 178, 3), (5, .aload_n 0, 1), (6, .iconst 0, 1), (7, .putfield 172, 3), (10, .iconst 0, 1), (11, .istore_n 2, 1)]) (S2 := (12, [some (.ref 84), some (.int v1), some (.int (0 : Int32)), none], [], (mm_pi (mm_pi M 84 13 (0 : Int32)) 84 15 (0 : Int32)))) (by decide +kernel) (hO := mm_own_203) rfl ?_
  have hp : mp_203_12 L xs (d + 1) v1 (0 : Int32) (mm_pi (mm_pi M 84 13 (0 : Int32)) 84 15 (0 : Int32)) o := by
    refine ms_203_L12 hd h hA (fun r2 M1 h => ?_)
    rcases r2 with r2 | r2
    · dsimp only [mm_sm] at h
      intro y3 y4 y5 y6
      show mm_Runs L xs (d + 1) 203 (69, [y3, y4, y5, y6], [], M1) o
      cases h
      exact mm_R_retv rfl rfl hA
    · dsimp only [mm_sm] at h
      intro y7 y8 y9
      show mm_Runs L xs (d + 1) 203 (115, [some (.ref 84), y7, y8, y9], [], M1) o
      refine mm_Runs.seq (l := [(115, .aload_n 0, 1), (116, .iconst 0, 1), (117, .putfield 172, 3)]) (S2 := (120, [some (.ref 84), y7, y8, y9], [], (mm_pi M1 84 15 (0 : Int32)))) (by decide +kernel) (hO := mm_own_203) rfl ?_
      cases h
      exact mm_R_retv rfl rfl hA
  exact hp none
