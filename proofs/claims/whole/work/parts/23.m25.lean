/-! MEANINGS 25 -/
-- 242: PlainPacksModel.lengthOf(II)I (depth 5)
theorem mm_own_242 : mm_own 242 = 12 := rfl
noncomputable def mf_242 (v1 : Int32) (v2 : Int32) (M : mm_M) : mm_O Int32 := mm_B (mf_233 v1 M) (fun r1 M2 => if r1 = 0 then (mm_B (mf_234 ((v1 + (2 : Int32)) + ((8 : Int32) * v2)) (3 : Int32) M2) (fun r3 M4 => some (.inl ((2 : Int32) + r3), M4))) else (mm_B (mf_233 (v1 + (1 : Int32)) M2) (fun r5 M6 => if r5 = 0 then (mm_B (mf_234 ((v1 + (130 : Int32)) + ((8 : Int32) * v2)) (3 : Int32) M6) (fun r7 M8 => some (.inl ((10 : Int32) + r7), M8))) else (mm_B (mf_234 (v1 + (258 : Int32)) (8 : Int32) M6) (fun r9 M10 => some (.inl ((18 : Int32) + r9), M10))))))
set_option maxRecDepth 8000 in
set_option maxHeartbeats 4000000 in
theorem ms_242 {L : Nat} {xs : Nat → Int32} {d : Nat} (hd : 5 ≤ d) {v1 : Int32} {v2 : Int32} {M : mm_M} {q : (Int32 ⊕ Nat) × mm_M} {o : mm_E} (h : mf_242 v1 v2 M = some q) (hA : mm_A (mm_Kr mm_wi) q o) : mm_Runs L xs d 242 (0, mm_ent (mm_ml 242) [.ref 84, .int v1, .int v2], [], M) o := by
  unfold mf_242 at h
  obtain ⟨d, rfl⟩ := mm_d1 (n := 4) hd
  show mm_Runs L xs (d + 1) 242 (0, [some (.ref 84), some (.int v1), some (.int v2)], [], M) o
  refine mm_Runs.seq (l := [(0, .aload_n 0, 1), (1, .iload_n 1, 1)]) (S2 := (2, [some (.ref 84), some (.int v1), some (.int v2)], [.int v1, .ref 84], M)) (by decide +kernel) (hO := mm_own_242) rfl ?_
  refine mm_R_call (v := mm_wi) h hA (k2 := 233) (as := [.ref 84, .int v1]) (r := []) rfl (fun _ => rfl) (fun q hq o ho => ms_233 (by omega) hq ho) (fun r1 M2 h => ?_)
  show mm_Runs L xs (d + 1) 242 (5, [some (.ref 84), some (.int v1), some (.int v2)], [.int r1], M2) o
  refine mm_R_zne (t := 24) rfl rfl rfl (fun hc => ?_) (fun hc => ?_)
  · replace h := mm_ip hc h
    refine mm_Runs.seq (l := [(8, .iconst 2, 1), (9, .aload_n 0, 1), (10, .iload_n 1, 1), (11, .iconst 2, 1), (12, .iadd, 1), (13, .bipush 8, 2), (15, .iload_n 2, 1), (16, .imul, 1), (17, .iadd, 1), (18, .iconst 3, 1)]) (S2 := (19, [some (.ref 84), some (.int v1), some (.int v2)], [.int (3 : Int32), .int ((v1 + (2 : Int32)) + ((8 : Int32) * v2)), .ref 84, .int (2 : Int32)], M2)) (by decide +kernel) (hO := mm_own_242) rfl ?_
    refine mm_R_call (v := mm_wi) h hA (k2 := 234) (as := [.ref 84, .int ((v1 + (2 : Int32)) + ((8 : Int32) * v2)), .int (3 : Int32)]) (r := [.int (2 : Int32)]) rfl (fun _ => rfl) (fun q hq o ho => ms_234 (by omega) hq ho) (fun r3 M4 h => ?_)
    show mm_Runs L xs (d + 1) 242 (22, [some (.ref 84), some (.int v1), some (.int v2)], [.int r3, .int (2 : Int32)], M4) o
    refine mm_Runs.seq (l := [(22, .iadd, 1)]) (S2 := (23, [some (.ref 84), some (.int v1), some (.int v2)], [.int ((2 : Int32) + r3)], M4)) (by decide +kernel) (hO := mm_own_242) rfl ?_
    cases h
    exact mm_R_reti rfl rfl hA
  · replace h := mm_iq hc h
    refine mm_Runs.seq (l := [(24, .aload_n 0, 1), (25, .iload_n 1, 1), (26, .iconst 1, 1), (27, .iadd, 1)]) (S2 := (28, [some (.ref 84), some (.int v1), some (.int v2)], [.int (v1 + (1 : Int32)), .ref 84], M2)) (by decide +kernel) (hO := mm_own_242) rfl ?_
    refine mm_R_call (v := mm_wi) h hA (k2 := 233) (as := [.ref 84, .int (v1 + (1 : Int32))]) (r := []) rfl (fun _ => rfl) (fun q hq o ho => ms_233 (by omega) hq ho) (fun r5 M6 h => ?_)
    show mm_Runs L xs (d + 1) 242 (31, [some (.ref 84), some (.int v1), some (.int v2)], [.int r5], M6) o
    refine mm_R_zne (t := 53) rfl rfl rfl (fun hc => ?_) (fun hc => ?_)
    · replace h := mm_ip hc h
      refine mm_Runs.seq (l := [(34, .bipush 10, 2), (36, .aload_n 0, 1), (37, .iload_n 1, 1), (38, .sipush 130, 3), (41, .iadd, 1), (42, .bipush 8, 2), (44, .iload_n 2, 1), (45, .imul, 1), (46, .iadd, 1), (47, .iconst 3, 1)]) (S2 := (48, [some (.ref 84), some (.int v1), some (.int v2)], [.int (3 : Int32), .int ((v1 + (130 : Int32)) + ((8 : Int32) * v2)), .ref 84, .int (10 : Int32)], M6)) (by decide +kernel) (hO := mm_own_242) rfl ?_
      refine mm_R_call (v := mm_wi) h hA (k2 := 234) (as := [.ref 84, .int ((v1 + (130 : Int32)) + ((8 : Int32) * v2)), .int (3 : Int32)]) (r := [.int (10 : Int32)]) rfl (fun _ => rfl) (fun q hq o ho => ms_234 (by omega) hq ho) (fun r7 M8 h => ?_)
      show mm_Runs L xs (d + 1) 242 (51, [some (.ref 84), some (.int v1), some (.int v2)], [.int r7, .int (10 : Int32)], M8) o
      refine mm_Runs.seq (l := [(51, .iadd, 1)]) (S2 := (52, [some (.ref 84), some (.int v1), some (.int v2)], [.int ((10 : Int32) + r7)], M8)) (by decide +kernel) (hO := mm_own_242) rfl ?_
      cases h
      exact mm_R_reti rfl rfl hA
    · replace h := mm_iq hc h
      refine mm_Runs.seq (l := [(53, .bipush 18, 2), (55, .aload_n 0, 1), (56, .iload_n 1, 1), (57, .sipush 258, 3), (60, .iadd, 1), (61, .bipush 8, 2)]) (S2 := (63, [some (.ref 84), some (.int v1), some (.int v2)], [.int (8 : Int32), .int (v1 + (258 : Int32)), .ref 84, .int (18 : Int32)], M6)) (by decide +kernel) (hO := mm_own_242) rfl ?_
      refine mm_R_call (v := mm_wi) h hA (k2 := 234) (as := [.ref 84, .int (v1 + (258 : Int32)), .int (8 : Int32)]) (r := [.int (18 : Int32)]) rfl (fun _ => rfl) (fun q hq o ho => ms_234 (by omega) hq ho) (fun r9 M10 h => ?_)
      show mm_Runs L xs (d + 1) 242 (66, [some (.ref 84), some (.int v1), some (.int v2)], [.int r9, .int (18 : Int32)], M10) o
      refine mm_Runs.seq (l := [(66, .iadd, 1)]) (S2 := (67, [some (.ref 84), some (.int v1), some (.int v2)], [.int ((18 : Int32) + r9)], M10)) (by decide +kernel) (hO := mm_own_242) rfl ?_
      cases h
      exact mm_R_reti rfl rfl hA
-- 240: PlainPacksModel.isRoom(IJ)V (depth 1)
theorem mm_own_240 : mm_own 240 = 12 := rfl
noncomputable def mf_240 (v1 : Int32) (v2 : Int64) (M : mm_M) : mm_O Unit := if (M.1 84 7) = 0 then (if v2 < (0 : Int64) then (some (.inl (), M)) else (if (v2 - (M.1 84 4).toInt64) < v1.toInt64 then (mm_B (mf_190 M) (fun _ M1 => some (.inl (), M1))) else (some (.inl (), M)))) else (some (.inl (), M))
set_option maxRecDepth 8000 in
set_option maxHeartbeats 4000000 in
theorem ms_240 {L : Nat} {xs : Nat → Int32} {d : Nat} (hd : 1 ≤ d) {v1 : Int32} {v2 : Int64} {M : mm_M} {q : (Unit ⊕ Nat) × mm_M} {o : mm_E} (h : mf_240 v1 v2 M = some q) (hA : mm_A (mm_Kr mm_wv) q o) : mm_Runs L xs d 240 (0, mm_ent (mm_ml 240) [.ref 84, .int v1, .long v2], [], M) o := by
  unfold mf_240 at h
  obtain ⟨d, rfl⟩ := mm_d1 (n := 0) hd
  show mm_Runs L xs (d + 1) 240 (0, [some (.ref 84), some (.int v1), some (.long v2), none], [], M) o
  refine mm_Runs.seq (l := [(0, .aload_n 0, 1), (1, .getfield 154, 3)]) (S2 := (4, [some (.ref 84), some (.int v1), some (.long v2), none], [.int (M.1 84 7)], M)) (by decide +kernel) (hO := mm_own_240) rfl ?_
  refine mm_R_zne (t := 30) rfl rfl rfl (fun hc => ?_) (fun hc => ?_)
  · replace h := mm_ip hc h
    refine mm_Runs.seq (l := [(7, .lload_n 2, 1), (8, .lconst 0, 1)]) (S2 := (9, [some (.ref 84), some (.int v1), some (.long v2), none], [.long (0 : Int64), .long v2], M)) (by decide +kernel) (hO := mm_own_240) rfl ?_
    refine mm_R_llt (t := 30) rfl rfl rfl rfl (fun hc => ?_) (fun hc => ?_)
    · replace h := mm_ip hc h
      cases h
      exact mm_R_retv rfl rfl hA
    · replace h := mm_iq hc h
      refine mm_Runs.seq (l := [(13, .iload_n 1, 1), (14, .i2l, 1), (15, .lload_n 2, 1), (16, .aload_n 0, 1), (17, .getfield 98, 3), (20, .i2l, 1), (21, .lsub, 1)]) (S2 := (22, [some (.ref 84), some (.int v1), some (.long v2), none], [.long (v2 - (M.1 84 4).toInt64), .long v1.toInt64], M)) (by decide +kernel) (hO := mm_own_240) rfl ?_
      refine mm_R_lle (t := 30) rfl rfl rfl rfl (fun hc => ?_) (fun hc => ?_)
      · replace h := mm_ip hc h
        refine mm_Runs.seq (l := [(26, .aload_n 0, 1)]) (S2 := (27, [some (.ref 84), some (.int v1), some (.long v2), none], [.ref 84], M)) (by decide +kernel) (hO := mm_own_240) rfl ?_
        refine mm_R_call (v := mm_wv) h hA (k2 := 190) (as := [.ref 84]) (r := []) rfl (fun _ => rfl) (fun q hq o ho => ms_190 (by omega) hq ho) (fun _ M1 h => ?_)
        show mm_Runs L xs (d + 1) 240 (30, [some (.ref 84), some (.int v1), some (.long v2), none], [], M1) o
        cases h
        exact mm_R_retv rfl rfl hA
      · replace h := mm_iq hc h
        cases h
        exact mm_R_retv rfl rfl hA
  · replace h := mm_iq hc h
    cases h
    exact mm_R_retv rfl rfl hA
-- 235: PlainPacksModel.turnedTree(II)J (depth 4)
theorem mm_own_235 : mm_own 235 = 12 := rfl
def mp_235_8 (L : Nat) (xs : Nat → Int32) (d : Nat) (v1 : Int32) (v2 : Int32) (v3 : Int32) (v4 : Int64) (v6 : Int32) (M : mm_M) (o : mm_E) : Prop := ∀ z5 z7 : Option Value, mm_Runs L xs d 235 (8, [some (.ref 84), some (.int v1), some (.int v2), some (.int v3), some (.long v4), z5, some (.int v6), z7], [], M) o
def mp_235_47 (L : Nat) (xs : Nat → Int32) (d : Nat) (v4 : Int64) (M : mm_M) (o : mm_E) : Prop := ∀ z0 z1 z2 z3 z5 z6 z7 : Option Value, mm_Runs L xs d 235 (47, [z0, z1, z2, z3, some (.long v4), z5, z6, z7], [], M) o
noncomputable def mf_235_b8 (v1 : Int32) (v2 : Int32) (v3 : Int32) (v4 : Int64) (v6 : Int32) (M : mm_M) : mm_O ((Int32 × Int64 × Int32) ⊕ (Int64)) := if v6 < v2 then (mm_B (mf_233 (v1 + v3) M) (fun r1 M2 => some (.inl (.inl ((((2 : Int32) * v3) + r1), (v4 ||| (mm_lshl r1.toInt64 v6)), (v6 + (1 : Int32)))), M2))) else (some (.inl (.inr v4), M))
noncomputable def mf_235_L8 (v1 : Int32) (v2 : Int32) (s : Int32 × Int64 × Int32) (M : mm_M) : mm_O (Int64) := mm_L (fun s M => mf_235_b8 v1 v2 s.1 s.2.1 s.2.2 M) s M
set_option maxRecDepth 8000 in
set_option maxHeartbeats 4000000 in
theorem ms_235_b8 {L : Nat} {xs : Nat → Int32} {d : Nat} (hd : 4 ≤ d) {v1 : Int32} {v2 : Int32} {v3 : Int32} {v4 : Int64} {v6 : Int32} {M : mm_M} {q : (((Int32 × Int64 × Int32) ⊕ (Int64)) ⊕ Nat) × mm_M} {o : mm_E} (h : mf_235_b8 v1 v2 v3 v4 v6 M = some q) (hA : mm_A (mm_K2 (fun s M o => mp_235_8 L xs (d) v1 v2 s.1 s.2.1 s.2.2 M o) (fun r M o => mp_235_47 L xs (d) r M o)) q o) : mp_235_8 L xs d v1 v2 v3 v4 v6 M o := by
  unfold mf_235_b8 at h
  obtain ⟨d, rfl⟩ := mm_d1 (n := 3) hd
  intro z5 z7
  show mm_Runs L xs (d + 1) 235 (8, [some (.ref 84), some (.int v1), some (.int v2), some (.int v3), some (.long v4), z5, some (.int v6), z7], [], M) o
  refine mm_Runs.seq (l := [(8, .iload 6, 2), (10, .iload_n 2, 1)]) (S2 := (11, [some (.ref 84), some (.int v1), some (.int v2), some (.int v3), some (.long v4), z5, some (.int v6), z7], [.int v2, .int v6], M)) (by decide +kernel) (hO := mm_own_235) rfl ?_
  refine mm_R_ige (t := 47) rfl rfl rfl (fun hc => ?_) (fun hc => ?_)
  · replace h := mm_ip hc h
    refine mm_Runs.seq (l := [(14, .aload_n 0, 1), (15, .iload_n 1, 1), (16, .iload_n 3, 1), (17, .iadd, 1)]) (S2 := (18, [some (.ref 84), some (.int v1), some (.int v2), some (.int v3), some (.long v4), z5, some (.int v6), z7], [.int (v1 + v3), .ref 84], M)) (by decide +kernel) (hO := mm_own_235) rfl ?_
    refine mm_R_call (v := mm_wi) h hA (k2 := 233) (as := [.ref 84, .int (v1 + v3)]) (r := []) rfl (fun _ => rfl) (fun q hq o ho => ms_233 (by omega) hq ho) (fun r1 M2 h => ?_)
    show mm_Runs L xs (d + 1) 235 (21, [some (.ref 84), some (.int v1), some (.int v2), some (.int v3), some (.long v4), z5, some (.int v6), z7], [.int r1], M2) o
    refine mm_Runs.seq (l := [(21, .istore 7, 2), (23, .iconst 2, 1), (24, .iload_n 3, 1), (25, .imul, 1), (26, .iload 7, 2), (28, .iadd, 1), (29, .istore_n 3, 1), (30, .lload 4, 2), (32, .iload 7, 2), (34, .i2l, 1), (35, .iload 6, 2), (37, .lshl, 1), (38, .lor, 1), (39, .lstore 4, 2), (41, .iinc 6 1, 3), (44, .goto (-36), 3)]) (S2 := (8, [some (.ref 84), some (.int v1), some (.int v2), some (.int (((2 : Int32) * v3) + r1)), some (.long (v4 ||| (mm_lshl r1.toInt64 v6))), none, some (.int (v6 + (1 : Int32))), some (.int r1)], [], M2)) (by decide +kernel) (hO := mm_own_235) rfl ?_
    cases h
    exact (show mp_235_8 L xs (d + 1) v1 v2 (((2 : Int32) * v3) + r1) (v4 ||| (mm_lshl r1.toInt64 v6)) (v6 + (1 : Int32)) M2 o from hA) none (some (.int r1))
  · replace h := mm_iq hc h
    cases h
    exact (show mp_235_47 L xs (d + 1) v4 M o from hA) (some (.ref 84)) (some (.int v1)) (some (.int v2)) (some (.int v3)) z5 (some (.int v6)) z7
theorem ms_235_L8 {L : Nat} {xs : Nat → Int32} {d : Nat} (hd : 4 ≤ d) {v1 : Int32} {v2 : Int32} {v3 : Int32} {v4 : Int64} {v6 : Int32} {β : Type} {K : β → mm_M → mm_E → Prop} {F : (Int64) → mm_M → mm_O β} {M : mm_M} {q : (β ⊕ Nat) × mm_M} {o : mm_E} (h : mm_B (mf_235_L8 v1 v2 (v3, v4, v6) M) F = some q) (hA : mm_A K q o) (hx : ∀ (r : (Int64)) (M2 : mm_M), F r M2 = some q → (fun r M o => mp_235_47 L xs (d) r M o) r M2 o) : mp_235_8 L xs d v1 v2 v3 v4 v6 M o := mm_R_loop (s := (v3, v4, v6)) (M := M) (P := (fun s M o => mp_235_8 L xs (d) v1 v2 s.1 s.2.1 s.2.2 M o)) (X := (fun r M o => mp_235_47 L xs (d) r M o)) h hA (fun s M q hq hA => ms_235_b8 hd hq hA) hx
noncomputable def mf_235 (v1 : Int32) (v2 : Int32) (M : mm_M) : mm_O Int64 := mm_B (mf_235_L8 v1 v2 ((1 : Int32), (0 : Int64), (0 : Int32)) M) (fun r2 M1 => some (.inl r2, M1))
set_option maxRecDepth 8000 in
set_option maxHeartbeats 4000000 in
theorem ms_235 {L : Nat} {xs : Nat → Int32} {d : Nat} (hd : 4 ≤ d) {v1 : Int32} {v2 : Int32} {M : mm_M} {q : (Int64 ⊕ Nat) × mm_M} {o : mm_E} (h : mf_235 v1 v2 M = some q) (hA : mm_A (mm_Kr mm_wl) q o) : mm_Runs L xs d 235 (0, mm_ent (mm_ml 235) [.ref 84, .int v1, .int v2], [], M) o := by
  unfold mf_235 at h
  obtain ⟨d, rfl⟩ := mm_d1 (n := 3) hd
  show mm_Runs L xs (d + 1) 235 (0, [some (.ref 84), some (.int v1), some (.int v2), none, none, none, none, none], [], M) o
  refine mm_Runs.seq (l := [(0, .iconst 1, 1), (1, .istore_n 3, 1), (2, .lconst 0, 1), (3, .lstore 4, 2), (5, .iconst 0, 1), (6, .istore 6, 2)]) (S2 := (8, [some (.ref 84), some (.int v1), some (.int v2), some (.int (1 : Int32)), some (.long (0 : Int64)), none, some (.int (0 : Int32)), none], [], M)) (by decide +kernel) (hO := mm_own_235) rfl ?_
  have hp : mp_235_8 L xs (d + 1) v1 v2 (1 : Int32) (0 : Int64) (0 : Int32) M o := by
    refine ms_235_L8 hd h hA (fun r2 M1 h => ?_)
    intro y3 y4 y5 y6 y7 y8 y9
    show mm_Runs L xs (d + 1) 235 (47, [y3, y4, y5, y6, some (.long r2), y7, y8, y9], [], M1) o
    refine mm_Runs.seq (l := [(47, .lload 4, 2)]) (S2 := (49, [y3, y4, y5, y6, some (.long r2), y7, y8, y9], [.long r2], M1)) (by decide +kernel) (hO := mm_own_235) rfl ?_
    cases h
    exact mm_R_retl rfl rfl hA
  exact hp none none
-- 236: PlainPacksModel.plainBits(I)J (depth 3)
theorem mm_own_236 : mm_own 236 = 12 := rfl
def mp_236_5 (L : Nat) (xs : Nat → Int32) (d : Nat) (v1 : Int32) (v2 : Int64) (v4 : Int32) (M : mm_M) (o : mm_E) : Prop := ∀ z3 z5 : Option Value, mm_Runs L xs d 236 (5, [some (.ref 84), some (.int v1), some (.long v2), z3, some (.int v4), z5], [], M) o
def mp_236_90 (L : Nat) (xs : Nat → Int32) (d : Nat) (v2 : Int64) (M : mm_M) (o : mm_E) : Prop := ∀ z0 z1 z3 z4 z5 : Option Value, mm_Runs L xs d 236 (90, [z0, z1, some (.long v2), z3, z4, z5], [], M) o
def mp_236_47 (L : Nat) (xs : Nat → Int32) (d : Nat) (v1 : Int32) (v2 : Int64) (v4 : Int32) (s0 : Int32) (M : mm_M) (o : mm_E) : Prop := ∀ z3 z5 : Option Value, mm_Runs L xs d 236 (47, [some (.ref 84), some (.int v1), some (.long v2), z3, some (.int v4), z5], [.int s0], M) o
def mp_236_68 (L : Nat) (xs : Nat → Int32) (d : Nat) (v1 : Int32) (v2 : Int64) (v4 : Int32) (v5 : Int32) (s1 : Int64) (s2 : Int64) (M : mm_M) (o : mm_E) : Prop := ∀ z3 : Option Value, mm_Runs L xs d 236 (68, [some (.ref 84), some (.int v1), some (.long v2), z3, some (.int v4), some (.int v5)], [.long s2, .long s1, .ref 84], M) o
noncomputable def mf_236_j68 (v1 : Int32) (v2 : Int64) (v4 : Int32) (v5 : Int32) (s1 : Int64) (s2 : Int64) (M : mm_M) : mm_O ((Int64 × Int32) ⊕ (Int64)) := mm_B (mf_232 (mm_pl M 84 34 (s1 - s2))) (fun _ M1 => some (.inl (.inl (((mm_lshl v2 (1 : Int32)) ||| v5.toInt64), (v4 + (1 : Int32)))), M1))
set_option maxRecDepth 8000 in
set_option maxHeartbeats 4000000 in
theorem ms_236_j68 {L : Nat} {xs : Nat → Int32} {d : Nat} (hd : 3 ≤ d) {v1 : Int32} {v2 : Int64} {v4 : Int32} {v5 : Int32} {s1 : Int64} {s2 : Int64} {M : mm_M} {q : (((Int64 × Int32) ⊕ (Int64)) ⊕ Nat) × mm_M} {o : mm_E} (h : mf_236_j68 v1 v2 v4 v5 s1 s2 M = some q) (hA : mm_A (mm_K2 (fun s M o => mp_236_5 L xs (d) v1 s.1 s.2 M o) (fun r M o => mp_236_90 L xs (d) r M o)) q o) : mp_236_68 L xs d v1 v2 v4 v5 s1 s2 M o := by
  unfold mf_236_j68 at h
  obtain ⟨d, rfl⟩ := mm_d1 (n := 2) hd
  intro z3
  show mm_Runs L xs (d + 1) 236 (68, [some (.ref 84), some (.int v1), some (.long v2), z3, some (.int v4), some (.int v5)], [.long s2, .long s1, .ref 84], M) o
  refine mm_Runs.seq (l := [(68, .lsub, 1), (69, .putfield 325, 3), (72, .lload_n 2, 1), (73, .iconst 1, 1), (74, .lshl, 1), (75, .iload 5, 2), (77, .i2l, 1), (78, .lor, 1), (79, .lstore_n 2, 1), (80, .aload_n 0, 1)]) (S2 := (81, [some (.ref 84), some (.int v1), some (.long ((mm_lshl v2 (1 : Int32)) ||| v5.toInt64)), none, some (.int v4), some (.int v5)], [.ref 84], (mm_pl M 84 34 (s1 - s2)))) (by decide +kernel) (hO := mm_own_236) rfl ?_
  refine mm_R_call (v := mm_wv) h hA (k2 := 232) (as := [.ref 84]) (r := []) rfl (fun _ => rfl) (fun q hq o ho => ms_232 (by omega) hq ho) (fun _ M1 h => ?_)
  show mm_Runs L xs (d + 1) 236 (84, [some (.ref 84), some (.int v1), some (.long ((mm_lshl v2 (1 : Int32)) ||| v5.toInt64)), none, some (.int v4), some (.int v5)], [], M1) o
  refine mm_Runs.seq (l := [(84, .iinc 4 1, 3), (87, .goto (-82), 3)]) (S2 := (5, [some (.ref 84), some (.int v1), some (.long ((mm_lshl v2 (1 : Int32)) ||| v5.toInt64)), none, some (.int (v4 + (1 : Int32))), some (.int v5)], [], M1)) (by decide +kernel) (hO := mm_own_236) rfl ?_
  cases h
  exact (show mp_236_5 L xs (d + 1) v1 ((mm_lshl v2 (1 : Int32)) ||| v5.toInt64) (v4 + (1 : Int32)) M1 o from hA) none (some (.int v5))
noncomputable def mf_236_j47 (v1 : Int32) (v2 : Int64) (v4 : Int32) (s0 : Int32) (M : mm_M) : mm_O ((Int64 × Int32) ⊕ (Int64)) := if s0 = (1 : Int32) then (mf_236_j68 v1 v2 v4 s0 (M.2.1 84 34) (M.2.1 84 33) M) else (mf_236_j68 v1 v2 v4 s0 (M.2.1 84 34) (0 : Int64) M)
set_option maxRecDepth 8000 in
set_option maxHeartbeats 4000000 in
theorem ms_236_j47 {L : Nat} {xs : Nat → Int32} {d : Nat} (hd : 3 ≤ d) {v1 : Int32} {v2 : Int64} {v4 : Int32} {s0 : Int32} {M : mm_M} {q : (((Int64 × Int32) ⊕ (Int64)) ⊕ Nat) × mm_M} {o : mm_E} (h : mf_236_j47 v1 v2 v4 s0 M = some q) (hA : mm_A (mm_K2 (fun s M o => mp_236_5 L xs (d) v1 s.1 s.2 M o) (fun r M o => mp_236_90 L xs (d) r M o)) q o) : mp_236_47 L xs d v1 v2 v4 s0 M o := by
  unfold mf_236_j47 at h
  obtain ⟨d, rfl⟩ := mm_d1 (n := 2) hd
  intro z3 z5
  show mm_Runs L xs (d + 1) 236 (47, [some (.ref 84), some (.int v1), some (.long v2), z3, some (.int v4), z5], [.int s0], M) o
  refine mm_Runs.seq (l := [(47, .istore 5, 2), (49, .aload_n 0, 1), (50, .dup, 1), (51, .getfield 325, 3), (54, .iload 5, 2), (56, .iconst 1, 1)]) (S2 := (57, [some (.ref 84), some (.int v1), some (.long v2), z3, some (.int v4), some (.int s0)], [.int (1 : Int32), .int s0, .long (M.2.1 84 34), .ref 84], M)) (by decide +kernel) (hO := mm_own_236) rfl ?_
  refine mm_R_ine (t := 67) rfl rfl rfl (fun hc => ?_) (fun hc => ?_)
  · replace h := mm_ip hc h
    refine mm_Runs.seq (l := [(60, .aload_n 0, 1), (61, .getfield 319, 3), (64, .goto 4, 3)]) (S2 := (68, [some (.ref 84), some (.int v1), some (.long v2), z3, some (.int v4), some (.int s0)], [.long (M.2.1 84 33), .long (M.2.1 84 34), .ref 84], M)) (by decide +kernel) (hO := mm_own_236) rfl ?_
    exact (ms_236_j68 hd h hA : mp_236_68 L xs (d + 1) v1 v2 v4 s0 (M.2.1 84 34) (M.2.1 84 33) M o) z3
  · replace h := mm_iq hc h
    refine mm_Runs.seq (l := [(67, .lconst 0, 1)]) (S2 := (68, [some (.ref 84), some (.int v1), some (.long v2), z3, some (.int v4), some (.int s0)], [.long (0 : Int64), .long (M.2.1 84 34), .ref 84], M)) (by decide +kernel) (hO := mm_own_236) rfl ?_
    exact (ms_236_j68 hd h hA : mp_236_68 L xs (d + 1) v1 v2 v4 s0 (M.2.1 84 34) (0 : Int64) M o) z3
noncomputable def mf_236_b5 (v1 : Int32) (v2 : Int64) (v4 : Int32) (M : mm_M) : mm_O ((Int64 × Int32) ⊕ (Int64)) := if v4 < v1 then (if (M.1 84 7) = 0 then (if (M.2.1 84 34) < ((M.2.1 84 33) / (2 : Int64)) then (mf_236_j47 v1 v2 v4 (0 : Int32) (mm_pl M 84 33 ((M.2.1 84 33) / (2 : Int64)))) else (mf_236_j47 v1 v2 v4 (1 : Int32) (mm_pl M 84 33 ((M.2.1 84 33) / (2 : Int64))))) else (some (.inl (.inr v2), M))) else (some (.inl (.inr v2), M))
noncomputable def mf_236_L5 (v1 : Int32) (s : Int64 × Int32) (M : mm_M) : mm_O (Int64) := mm_L (fun s M => mf_236_b5 v1 s.1 s.2 M) s M
set_option maxRecDepth 8000 in
set_option maxHeartbeats 4000000 in
theorem ms_236_b5 {L : Nat} {xs : Nat → Int32} {d : Nat} (hd : 3 ≤ d) {v1 : Int32} {v2 : Int64} {v4 : Int32} {M : mm_M} {q : (((Int64 × Int32) ⊕ (Int64)) ⊕ Nat) × mm_M} {o : mm_E} (h : mf_236_b5 v1 v2 v4 M = some q) (hA : mm_A (mm_K2 (fun s M o => mp_236_5 L xs (d) v1 s.1 s.2 M o) (fun r M o => mp_236_90 L xs (d) r M o)) q o) : mp_236_5 L xs d v1 v2 v4 M o := by
  unfold mf_236_b5 at h
  obtain ⟨d, rfl⟩ := mm_d1 (n := 2) hd
  intro z3 z5
  show mm_Runs L xs (d + 1) 236 (5, [some (.ref 84), some (.int v1), some (.long v2), z3, some (.int v4), z5], [], M) o
  refine mm_Runs.seq (l := [(5, .iload 4, 2), (7, .iload_n 1, 1)]) (S2 := (8, [some (.ref 84), some (.int v1), some (.long v2), z3, some (.int v4), z5], [.int v1, .int v4], M)) (by decide +kernel) (hO := mm_own_236) rfl ?_
  refine mm_R_ige (t := 90) rfl rfl rfl (fun hc => ?_) (fun hc => ?_)
  · replace h := mm_ip hc h
    refine mm_Runs.seq (l := [(11, .aload_n 0, 1), (12, .getfield 154, 3)]) (S2 := (15, [some (.ref 84), some (.int v1), some (.long v2), z3, some (.int v4), z5], [.int (M.1 84 7)], M)) (by decide +kernel) (hO := mm_own_236) rfl ?_
    refine mm_R_zne (t := 90) rfl rfl rfl (fun hc => ?_) (fun hc => ?_)
    · replace h := mm_ip hc h
      refine mm_Runs.seq (l := [(18, .aload_n 0, 1), (19, .dup, 1), (20, .getfield 319, 3), (23, .ldc2_w 336, 3), (26, .ldiv, 1), (27, .putfield 319, 3), (30, .aload_n 0, 1), (31, .getfield 325, 3), (34, .aload_n 0, 1), (35, .getfield 319, 3)]) (S2 := (38, [some (.ref 84), some (.int v1), some (.long v2), z3, some (.int v4), z5], [.long ((M.2.1 84 33) / (2 : Int64)), .long (M.2.1 84 34)], (mm_pl M 84 33 ((M.2.1 84 33) / (2 : Int64))))) (by decide +kernel) (hO := mm_own_236) rfl ?_
      refine mm_R_lge (t := 46) rfl rfl rfl rfl (fun hc => ?_) (fun hc => ?_)
      · replace h := mm_ip hc h
        refine mm_Runs.seq (l := [(42, .iconst 0, 1), (43, .goto 4, 3)]) (S2 := (47, [some (.ref 84), some (.int v1), some (.long v2), z3, some (.int v4), z5], [.int (0 : Int32)], (mm_pl M 84 33 ((M.2.1 84 33) / (2 : Int64))))) (by decide +kernel) (hO := mm_own_236) rfl ?_
        exact (ms_236_j47 hd h hA : mp_236_47 L xs (d + 1) v1 v2 v4 (0 : Int32) (mm_pl M 84 33 ((M.2.1 84 33) / (2 : Int64))) o) z3 z5
      · replace h := mm_iq hc h
        refine mm_Runs.seq (l := [(46, .iconst 1, 1)]) (S2 := (47, [some (.ref 84), some (.int v1), some (.long v2), z3, some (.int v4), z5], [.int (1 : Int32)], (mm_pl M 84 33 ((M.2.1 84 33) / (2 : Int64))))) (by decide +kernel) (hO := mm_own_236) rfl ?_
        exact (ms_236_j47 hd h hA : mp_236_47 L xs (d + 1) v1 v2 v4 (1 : Int32) (mm_pl M 84 33 ((M.2.1 84 33) / (2 : Int64))) o) z3 z5
    · replace h := mm_iq hc h
      cases h
      exact (show mp_236_90 L xs (d + 1) v2 M o from hA) (some (.ref 84)) (some (.int v1)) z3 (some (.int v4)) z5
  · replace h := mm_iq hc h
    cases h
    exact (show mp_236_90 L xs (d + 1) v2 M o from hA) (some (.ref 84)) (some (.int v1)) z3 (some (.int v4)) z5
theorem ms_236_L5 {L : Nat} {xs : Nat → Int32} {d : Nat} (hd : 3 ≤ d) {v1 : Int32} {v2 : Int64} {v4 : Int32} {β : Type} {K : β → mm_M → mm_E → Prop} {F : (Int64) → mm_M → mm_O β} {M : mm_M} {q : (β ⊕ Nat) × mm_M} {o : mm_E} (h : mm_B (mf_236_L5 v1 (v2, v4) M) F = some q) (hA : mm_A K q o) (hx : ∀ (r : (Int64)) (M2 : mm_M), F r M2 = some q → (fun r M o => mp_236_90 L xs (d) r M o) r M2 o) : mp_236_5 L xs d v1 v2 v4 M o := mm_R_loop (s := (v2, v4)) (M := M) (P := (fun s M o => mp_236_5 L xs (d) v1 s.1 s.2 M o)) (X := (fun r M o => mp_236_90 L xs (d) r M o)) h hA (fun s M q hq hA => ms_236_b5 hd hq hA) hx
noncomputable def mf_236 (v1 : Int32) (M : mm_M) : mm_O Int64 := mm_B (mf_236_L5 v1 ((0 : Int64), (0 : Int32)) M) (fun r2 M1 => some (.inl r2, M1))
set_option maxRecDepth 8000 in
set_option maxHeartbeats 4000000 in
theorem ms_236 {L : Nat} {xs : Nat → Int32} {d : Nat} (hd : 3 ≤ d) {v1 : Int32} {M : mm_M} {q : (Int64 ⊕ Nat) × mm_M} {o : mm_E} (h : mf_236 v1 M = some q) (hA : mm_A (mm_Kr mm_wl) q o) : mm_Runs L xs d 236 (0, mm_ent (mm_ml 236) [.ref 84, .int v1], [], M) o := by
  unfold mf_236 at h
  obtain ⟨d, rfl⟩ := mm_d1 (n := 2) hd
  show mm_Runs L xs (d + 1) 236 (0, [some (.ref 84), some (.int v1), none, none, none, none], [], M) o
  refine mm_Runs.seq (l := [(0, .lconst 0, 1), (1, .lstore_n 2, 1), (2, .iconst 0, 1), (3, .istore 4, 2)]) (S2 := (5, [some (.ref 84), some (.int v1), some (.long (0 : Int64)), none, some (.int (0 : Int32)), none], [], M)) (by decide +kernel) (hO := mm_own_236) rfl ?_
  have hp : mp_236_5 L xs (d + 1) v1 (0 : Int64) (0 : Int32) M o := by
    refine ms_236_L5 hd h hA (fun r2 M1 h => ?_)
    intro y3 y4 y5 y6 y7
    show mm_Runs L xs (d + 1) 236 (90, [y3, y4, some (.long r2), y5, y6, y7], [], M1) o
    refine mm_Runs.seq (l := [(90, .lload_n 2, 1)]) (S2 := (91, [y3, y4, some (.long r2), y5, y6, y7], [.long r2], M1)) (by decide +kernel) (hO := mm_own_236) rfl ?_
    cases h
    exact mm_R_retl rfl rfl hA
  exact hp none none
-- 243: PlainPacksModel.distanceOf(I)J (depth 5)
theorem mm_own_243 : mm_own 243 = 12 := rfl
def mp_243_14 (L : Nat) (xs : Nat → Int32) (d : Nat) (s0 : Int32) (M : mm_M) (o : mm_E) : Prop := ∀ z1 z2 z3 z4 z5 z6 : Option Value, mm_Runs L xs d 243 (14, [some (.ref 84), z1, z2, z3, z4, z5, z6], [.int s0], M) o
noncomputable def mf_243_j14 (s0 : Int32) (M : mm_M) : mm_O Int64 := mm_B (mf_234 ((1460 : Int32) + ((64 : Int32) * s0)) (6 : Int32) M) (fun r1 M2 => if r1 < (4 : Int32) then (some (.inl (r1.toInt64 + (1 : Int64)), M2)) else (if r1 < (14 : Int32) then (mm_B (mf_235 ((1716 : Int32) + ((32 : Int32) * r1)) ((r1 / (2 : Int32)) - (1 : Int32)) M2) (fun r3 M4 => some (.inl (((mm_lshl ((2 : Int64) + (mm_rem r1 (2 : Int32)).toInt64) ((r1 / (2 : Int32)) - (1 : Int32))) + r3) + (1 : Int64)), M4))) else (mm_B (mf_236 (((r1 / (2 : Int32)) - (1 : Int32)) - (4 : Int32)) M2) (fun r5 M6 => mm_B (mf_235 (2228 : Int32) (4 : Int32) M6) (fun r7 M8 => some (.inl ((((mm_lshl ((2 : Int64) + (mm_rem r1 (2 : Int32)).toInt64) ((r1 / (2 : Int32)) - (1 : Int32))) + (mm_lshl r5 (4 : Int32))) + r7) + (1 : Int64)), M8))))))
set_option maxRecDepth 8000 in
set_option maxHeartbeats 4000000 in
theorem ms_243_j14 {L : Nat} {xs : Nat → Int32} {d : Nat} (hd : 5 ≤ d) {s0 : Int32} {M : mm_M} {q : (Int64 ⊕ Nat) × mm_M} {o : mm_E} (h : mf_243_j14 s0 M = some q) (hA : mm_A (mm_Kr mm_wl) q o) : mp_243_14 L xs d s0 M o := by
  unfold mf_243_j14 at h
  obtain ⟨d, rfl⟩ := mm_d1 (n := 4) hd
  intro z1 z2 z3 z4 z5 z6
  show mm_Runs L xs (d + 1) 243 (14, [some (.ref 84), z1, z2, z3, z4, z5, z6], [.int s0], M) o
  refine mm_Runs.seq (l := [(14, .istore_n 2, 1), (15, .aload_n 0, 1), (16, .sipush 1460, 3), (19, .bipush 64, 2), (21, .iload_n 2, 1), (22, .imul, 1), (23, .iadd, 1), (24, .bipush 6, 2)]) (S2 := (26, [some (.ref 84), (mm_no2 z1), some (.int s0), z3, z4, z5, z6], [.int (6 : Int32), .int ((1460 : Int32) + ((64 : Int32) * s0)), .ref 84], M)) (by decide +kernel) (hO := mm_own_243) rfl ?_
  refine mm_R_call (v := mm_wi) h hA (k2 := 234) (as := [.ref 84, .int ((1460 : Int32) + ((64 : Int32) * s0)), .int (6 : Int32)]) (r := []) rfl (fun _ => rfl) (fun q hq o ho => ms_234 (by omega) hq ho) (fun r1 M2 h => ?_)
  show mm_Runs L xs (d + 1) 243 (29, [some (.ref 84), (mm_no2 z1), some (.int s0), z3, z4, z5, z6], [.int r1], M2) o
  refine mm_Runs.seq (l := [(29, .istore_n 3, 1), (30, .iload_n 3, 1), (31, .iconst 4, 1)]) (S2 := (32, [some (.ref 84), (mm_no2 z1), some (.int s0), some (.int r1), z4, z5, z6], [.int (4 : Int32), .int r1], M2)) (by decide +kernel) (hO := mm_own_243) rfl ?_
  refine mm_R_ige (t := 40) rfl rfl rfl (fun hc => ?_) (fun hc => ?_)
  · replace h := mm_ip hc h
    refine mm_Runs.seq (l := [(35, .iload_n 3, 1), (36, .i2l, 1), (37, .lconst 1, 1), (38, .ladd, 1)]) (S2 := (39, [some (.ref 84), (mm_no2 z1), some (.int s0), some (.int r1), z4, z5, z6], [.long (r1.toInt64 + (1 : Int64))], M2)) (by decide +kernel) (hO := mm_own_243) rfl ?_
    cases h
    exact mm_R_retl rfl rfl hA
  · replace h := mm_iq hc h
    refine mm_Runs.seq (l := [(40, .iload_n 3, 1), (41, .iconst 2, 1), (42, .idiv, 1), (43, .iconst 1, 1), (44, .isub, 1), (45, .istore 4, 2), (47, .ldc2_w 336, 3), (50, .iload_n 3, 1), (51, .iconst 2, 1), (52, .irem, 1), (53, .i2l, 1), (54, .ladd, 1), (55, .iload 4, 2), (57, .lshl, 1), (58, .lstore 5, 2), (60, .iload_n 3, 1), (61, .bipush 14, 2)]) (S2 := (63, [some (.ref 84), (mm_no2 z1), some (.int s0), some (.int r1), some (.int ((r1 / (2 : Int32)) - (1 : Int32))), some (.long (mm_lshl ((2 : Int64) + (mm_rem r1 (2 : Int32)).toInt64) ((r1 / (2 : Int32)) - (1 : Int32)))), none], [.int (14 : Int32), .int r1], M2)) (by decide +kernel) (hO := mm_own_243) rfl ?_
    refine mm_R_ige (t := 86) rfl rfl rfl (fun hc => ?_) (fun hc => ?_)
    · replace h := mm_ip hc h
      refine mm_Runs.seq (l := [(66, .lload 5, 2), (68, .aload_n 0, 1), (69, .sipush 1716, 3), (72, .bipush 32, 2), (74, .iload_n 3, 1), (75, .imul, 1), (76, .iadd, 1), (77, .iload 4, 2)]) (S2 := (79, [some (.ref 84), (mm_no2 z1), some (.int s0), some (.int r1), some (.int ((r1 / (2 : Int32)) - (1 : Int32))), some (.long (mm_lshl ((2 : Int64) + (mm_rem r1 (2 : Int32)).toInt64) ((r1 / (2 : Int32)) - (1 : Int32)))), none], [.int ((r1 / (2 : Int32)) - (1 : Int32)), .int ((1716 : Int32) + ((32 : Int32) * r1)), .ref 84, .long (mm_lshl ((2 : Int64) + (mm_rem r1 (2 : Int32)).toInt64) ((r1 / (2 : Int32)) - (1 : Int32)))], M2)) (by decide +kernel) (hO := mm_own_243) rfl ?_
      refine mm_R_call (v := mm_wl) h hA (k2 := 235) (as := [.ref 84, .int ((1716 : Int32) + ((32 : Int32) * r1)), .int ((r1 / (2 : Int32)) - (1 : Int32))]) (r := [.long (mm_lshl ((2 : Int64) + (mm_rem r1 (2 : Int32)).toInt64) ((r1 / (2 : Int32)) - (1 : Int32)))]) rfl (fun _ => rfl) (fun q hq o ho => ms_235 (by omega) hq ho) (fun r3 M4 h => ?_)
      show mm_Runs L xs (d + 1) 243 (82, [some (.ref 84), (mm_no2 z1), some (.int s0), some (.int r1), some (.int ((r1 / (2 : Int32)) - (1 : Int32))), some (.long (mm_lshl ((2 : Int64) + (mm_rem r1 (2 : Int32)).toInt64) ((r1 / (2 : Int32)) - (1 : Int32)))), none], [.long r3, .long (mm_lshl ((2 : Int64) + (mm_rem r1 (2 : Int32)).toInt64) ((r1 / (2 : Int32)) - (1 : Int32)))], M4) o
      refine mm_Runs.seq (l := [(82, .ladd, 1), (83, .lconst 1, 1), (84, .ladd, 1)]) (S2 := (85, [some (.ref 84), (mm_no2 z1), some (.int s0), some (.int r1), some (.int ((r1 / (2 : Int32)) - (1 : Int32))), some (.long (mm_lshl ((2 : Int64) + (mm_rem r1 (2 : Int32)).toInt64) ((r1 / (2 : Int32)) - (1 : Int32)))), none], [.long (((mm_lshl ((2 : Int64) + (mm_rem r1 (2 : Int32)).toInt64) ((r1 / (2 : Int32)) - (1 : Int32))) + r3) + (1 : Int64))], M4)) (by decide +kernel) (hO := mm_own_243) rfl ?_
      cases h
      exact mm_R_retl rfl rfl hA
    · replace h := mm_iq hc h
      refine mm_Runs.seq (l := [(86, .lload 5, 2), (88, .aload_n 0, 1), (89, .iload 4, 2), (91, .iconst 4, 1), (92, .isub, 1)]) (S2 := (93, [some (.ref 84), (mm_no2 z1), some (.int s0), some (.int r1), some (.int ((r1 / (2 : Int32)) - (1 : Int32))), some (.long (mm_lshl ((2 : Int64) + (mm_rem r1 (2 : Int32)).toInt64) ((r1 / (2 : Int32)) - (1 : Int32)))), none], [.int (((r1 / (2 : Int32)) - (1 : Int32)) - (4 : Int32)), .ref 84, .long (mm_lshl ((2 : Int64) + (mm_rem r1 (2 : Int32)).toInt64) ((r1 / (2 : Int32)) - (1 : Int32)))], M2)) (by decide +kernel) (hO := mm_own_243) rfl ?_
      refine mm_R_call (v := mm_wl) h hA (k2 := 236) (as := [.ref 84, .int (((r1 / (2 : Int32)) - (1 : Int32)) - (4 : Int32))]) (r := [.long (mm_lshl ((2 : Int64) + (mm_rem r1 (2 : Int32)).toInt64) ((r1 / (2 : Int32)) - (1 : Int32)))]) rfl (fun _ => rfl) (fun q hq o ho => ms_236 (by omega) hq ho) (fun r5 M6 h => ?_)
      show mm_Runs L xs (d + 1) 243 (96, [some (.ref 84), (mm_no2 z1), some (.int s0), some (.int r1), some (.int ((r1 / (2 : Int32)) - (1 : Int32))), some (.long (mm_lshl ((2 : Int64) + (mm_rem r1 (2 : Int32)).toInt64) ((r1 / (2 : Int32)) - (1 : Int32)))), none], [.long r5, .long (mm_lshl ((2 : Int64) + (mm_rem r1 (2 : Int32)).toInt64) ((r1 / (2 : Int32)) - (1 : Int32)))], M6) o
      refine mm_Runs.seq (l := [(96, .iconst 4, 1), (97, .lshl, 1), (98, .ladd, 1), (99, .lstore 5, 2), (101, .lload 5, 2), (103, .aload_n 0, 1), (104, .sipush 2228, 3), (107, .iconst 4, 1)]) (S2 := (108, [some (.ref 84), (mm_no2 z1), some (.int s0), some (.int r1), some (.int ((r1 / (2 : Int32)) - (1 : Int32))), some (.long ((mm_lshl ((2 : Int64) + (mm_rem r1 (2 : Int32)).toInt64) ((r1 / (2 : Int32)) - (1 : Int32))) + (mm_lshl r5 (4 : Int32)))), none], [.int (4 : Int32), .int (2228 : Int32), .ref 84, .long ((mm_lshl ((2 : Int64) + (mm_rem r1 (2 : Int32)).toInt64) ((r1 / (2 : Int32)) - (1 : Int32))) + (mm_lshl r5 (4 : Int32)))], M6)) (by decide +kernel) (hO := mm_own_243) rfl ?_
      refine mm_R_call (v := mm_wl) h hA (k2 := 235) (as := [.ref 84, .int (2228 : Int32), .int (4 : Int32)]) (r := [.long ((mm_lshl ((2 : Int64) + (mm_rem r1 (2 : Int32)).toInt64) ((r1 / (2 : Int32)) - (1 : Int32))) + (mm_lshl r5 (4 : Int32)))]) rfl (fun _ => rfl) (fun q hq o ho => ms_235 (by omega) hq ho) (fun r7 M8 h => ?_)
      show mm_Runs L xs (d + 1) 243 (111, [some (.ref 84), (mm_no2 z1), some (.int s0), some (.int r1), some (.int ((r1 / (2 : Int32)) - (1 : Int32))), some (.long ((mm_lshl ((2 : Int64) + (mm_rem r1 (2 : Int32)).toInt64) ((r1 / (2 : Int32)) - (1 : Int32))) + (mm_lshl r5 (4 : Int32)))), none], [.long r7, .long ((mm_lshl ((2 : Int64) + (mm_rem r1 (2 : Int32)).toInt64) ((r1 / (2 : Int32)) - (1 : Int32))) + (mm_lshl r5 (4 : Int32)))], M8) o
      refine mm_Runs.seq (l := [(111, .ladd, 1), (112, .lconst 1, 1), (113, .ladd, 1)]) (S2 := (114, [some (.ref 84), (mm_no2 z1), some (.int s0), some (.int r1), some (.int ((r1 / (2 : Int32)) - (1 : Int32))), some (.long ((mm_lshl ((2 : Int64) + (mm_rem r1 (2 : Int32)).toInt64) ((r1 / (2 : Int32)) - (1 : Int32))) + (mm_lshl r5 (4 : Int32)))), none], [.long ((((mm_lshl ((2 : Int64) + (mm_rem r1 (2 : Int32)).toInt64) ((r1 / (2 : Int32)) - (1 : Int32))) + (mm_lshl r5 (4 : Int32))) + r7) + (1 : Int64))], M8)) (by decide +kernel) (hO := mm_own_243) rfl ?_
      cases h
      exact mm_R_retl rfl rfl hA
noncomputable def mf_243 (v1 : Int32) (M : mm_M) : mm_O Int64 := if (3 : Int32) < (v1 - (2 : Int32)) then (mf_243_j14 (3 : Int32) M) else (mf_243_j14 (v1 - (2 : Int32)) M)
set_option maxRecDepth 8000 in
set_option maxHeartbeats 4000000 in
theorem ms_243 {L : Nat} {xs : Nat → Int32} {d : Nat} (hd : 5 ≤ d) {v1 : Int32} {M : mm_M} {q : (Int64 ⊕ Nat) × mm_M} {o : mm_E} (h : mf_243 v1 M = some q) (hA : mm_A (mm_Kr mm_wl) q o) : mm_Runs L xs d 243 (0, mm_ent (mm_ml 243) [.ref 84, .int v1], [], M) o := by
  unfold mf_243 at h
  obtain ⟨d, rfl⟩ := mm_d1 (n := 4) hd
  show mm_Runs L xs (d + 1) 243 (0, [some (.ref 84), some (.int v1), none, none, none, none, none], [], M) o
  refine mm_Runs.seq (l := [(0, .iload_n 1, 1), (1, .iconst 2, 1), (2, .isub, 1), (3, .iconst 3, 1)]) (S2 := (4, [some (.ref 84), some (.int v1), none, none, none, none, none], [.int (3 : Int32), .int (v1 - (2 : Int32))], M)) (by decide +kernel) (hO := mm_own_243) rfl ?_
  refine mm_R_ile (t := 11) rfl rfl rfl (fun hc => ?_) (fun hc => ?_)
  · replace h := mm_ip hc h
    refine mm_Runs.seq (l := [(7, .iconst 3, 1), (8, .goto 6, 3)]) (S2 := (14, [some (.ref 84), some (.int v1), none, none, none, none, none], [.int (3 : Int32)], M)) (by decide +kernel) (hO := mm_own_243) rfl ?_
    exact (ms_243_j14 hd h hA : mp_243_14 L xs (d + 1) (3 : Int32) M o) (some (.int v1)) none none none none none
  · replace h := mm_iq hc h
    refine mm_Runs.seq (l := [(11, .iload_n 1, 1), (12, .iconst 2, 1), (13, .isub, 1)]) (S2 := (14, [some (.ref 84), some (.int v1), none, none, none, none, none], [.int (v1 - (2 : Int32))], M)) (by decide +kernel) (hO := mm_own_243) rfl ?_
    exact (ms_243_j14 hd h hA : mp_243_14 L xs (d + 1) (v1 - (2 : Int32)) M o) (some (.int v1)) none none none none none
-- 239: PlainPacksModel.isThere(I)V (depth 1)
theorem mm_own_239 : mm_own 239 = 12 := rfl
noncomputable def mf_239 (v1 : Int32) (M : mm_M) : mm_O Unit := if (M.1 84 7) = 0 then (if mm_in v1 4 then if (M.1 84 4).toInt64 < (M.2.1 99 v1.toNatClampNeg) then (mm_B (mf_190 M) (fun _ M1 => some (.inl (), M1))) else (some (.inl (), M)) else none) else (some (.inl (), M))
set_option maxRecDepth 8000 in
set_option maxHeartbeats 4000000 in
theorem ms_239 {L : Nat} {xs : Nat → Int32} {d : Nat} (hd : 1 ≤ d) {v1 : Int32} {M : mm_M} {q : (Unit ⊕ Nat) × mm_M} {o : mm_E} (h : mf_239 v1 M = some q) (hA : mm_A (mm_Kr mm_wv) q o) : mm_Runs L xs d 239 (0, mm_ent (mm_ml 239) [.ref 84, .int v1], [], M) o := by
  unfold mf_239 at h
  obtain ⟨d, rfl⟩ := mm_d1 (n := 0) hd
  show mm_Runs L xs (d + 1) 239 (0, [some (.ref 84), some (.int v1)], [], M) o
  refine mm_Runs.seq (l := [(0, .aload_n 0, 1), (1, .getfield 154, 3)]) (S2 := (4, [some (.ref 84), some (.int v1)], [.int (M.1 84 7)], M)) (by decide +kernel) (hO := mm_own_239) rfl ?_
  refine mm_R_zne (t := 26) rfl rfl rfl (fun hc => ?_) (fun hc => ?_)
  · replace h := mm_ip hc h
    refine mm_Runs.seq (l := [(7, .aload_n 0, 1), (8, .getfield 53, 3), (11, .iload_n 1, 1)]) (S2 := (12, [some (.ref 84), some (.int v1)], [.int v1, .ref 99], M)) (by decide +kernel) (hO := mm_own_239) rfl ?_
    obtain ⟨hb, h⟩ := mm_gd h
    refine mm_R_lald rfl rfl hb ?_
    refine mm_Runs.seq (l := [(13, .aload_n 0, 1), (14, .getfield 98, 3), (17, .i2l, 1)]) (S2 := (18, [some (.ref 84), some (.int v1)], [.long (M.1 84 4).toInt64, .long (M.2.1 99 v1.toNatClampNeg)], M)) (by decide +kernel) (hO := mm_own_239) rfl ?_
    refine mm_R_lle (t := 26) rfl rfl rfl rfl (fun hc => ?_) (fun hc => ?_)
    · replace h := mm_ip hc h
      refine mm_Runs.seq (l := [(22, .aload_n 0, 1)]) (S2 := (23, [some (.ref 84), some (.int v1)], [.ref 84], M)) (by decide +kernel) (hO := mm_own_239) rfl ?_
      refine mm_R_call (v := mm_wv) h hA (k2 := 190) (as := [.ref 84]) (r := []) rfl (fun _ => rfl) (fun q hq o ho => ms_190 (by omega) hq ho) (fun _ M1 h => ?_)
      show mm_Runs L xs (d + 1) 239 (26, [some (.ref 84), some (.int v1)], [], M1) o
      cases h
      exact mm_R_retv rfl rfl hA
    · replace h := mm_iq hc h
      cases h
      exact mm_R_retv rfl rfl hA
  · replace h := mm_iq hc h
    cases h
    exact mm_R_retv rfl rfl hA
-- 238: PlainPacksModel.place(J)Z (depth 6)
theorem mm_own_238 : mm_own 238 = 12 := rfl
def mp_238_136 (L : Nat) (xs : Nat → Int32) (d : Nat) (v1 : Int64) (v4 : Int32) (v5 : Int64) (v7 : Int32) (M : mm_M) (o : mm_E) : Prop := ∀ z2 z3 z6 z8 : Option Value, mm_Runs L xs d 238 (136, [some (.ref 84), some (.long v1), z2, z3, some (.int v4), some (.long v5), z6, some (.int v7), z8], [], M) o
def mp_238_163 (L : Nat) (xs : Nat → Int32) (d : Nat) (v1 : Int64) (v4 : Int32) (v5 : Int64) (M : mm_M) (o : mm_E) : Prop := ∀ z2 z3 z6 z7 z8 : Option Value, mm_Runs L xs d 238 (163, [some (.ref 84), some (.long v1), z2, z3, some (.int v4), some (.long v5), z6, z7, z8], [], M) o
noncomputable def mf_238_b136 (v1 : Int64) (v4 : Int32) (v5 : Int64) (v7 : Int32) (M : mm_M) : mm_O ((Int32) ⊕ (Unit)) := if 0 < v7 then (if mm_in (v7 - (1 : Int32)) 4 then if mm_in v7 4 then some (.inl (.inl (v7 + (-1 : Int32))), (mm_pl M 99 v7.toNatClampNeg (M.2.1 99 (v7 - (1 : Int32)).toNatClampNeg))) else none else none) else (some (.inl (.inr ()), M))
noncomputable def mf_238_L136 (v1 : Int64) (v4 : Int32) (v5 : Int64) (s : Int32) (M : mm_M) : mm_O (Unit) := mm_L (fun s M => mf_238_b136 v1 v4 v5 s M) s M
set_option maxRecDepth 8000 in
set_option maxHeartbeats 4000000 in
theorem ms_238_b136 {L : Nat} {xs : Nat → Int32} {d : Nat} (hd : 6 ≤ d) {v1 : Int64} {v4 : Int32} {v5 : Int64} {v7 : Int32} {M : mm_M} {q : (((Int32) ⊕ (Unit)) ⊕ Nat) × mm_M} {o : mm_E} (h : mf_238_b136 v1 v4 v5 v7 M = some q) (hA : mm_A (mm_K2 (fun s M o => mp_238_136 L xs (d) v1 v4 v5 s M o) (fun r M o => mp_238_163 L xs (d) v1 v4 v5 M o)) q o) : mp_238_136 L xs d v1 v4 v5 v7 M o := by
  unfold mf_238_b136 at h
  obtain ⟨d, rfl⟩ := mm_d1 (n := 5) hd
  intro z2 z3 z6 z8
  show mm_Runs L xs (d + 1) 238 (136, [some (.ref 84), some (.long v1), z2, z3, some (.int v4), some (.long v5), z6, some (.int v7), z8], [], M) o
  refine mm_Runs.seq (l := [(136, .iload 7, 2)]) (S2 := (138, [some (.ref 84), some (.long v1), z2, z3, some (.int v4), some (.long v5), z6, some (.int v7), z8], [.int v7], M)) (by decide +kernel) (hO := mm_own_238) rfl ?_
  refine mm_R_zle (t := 163) rfl rfl rfl (fun hc => ?_) (fun hc => ?_)
  · replace h := mm_ip hc h
    refine mm_Runs.seq (l := [(141, .aload_n 0, 1), (142, .getfield 53, 3), (145, .iload 7, 2), (147, .aload_n 0, 1), (148, .getfield 53, 3), (151, .iload 7, 2), (153, .iconst 1, 1), (154, .isub, 1)]) (S2 := (155, [some (.ref 84), some (.long v1), z2, z3, some (.int v4), some (.long v5), z6, some (.int v7), z8], [.int (v7 - (1 : Int32)), .ref 99, .int v7, .ref 99], M)) (by decide +kernel) (hO := mm_own_238) rfl ?_
    obtain ⟨hb, h⟩ := mm_gd h
    refine mm_R_lald rfl rfl hb ?_
    obtain ⟨hb, h⟩ := mm_gd h
    refine mm_R_last rfl rfl hb ?_
    refine mm_Runs.seq (l := [(157, .iinc 7 (-1), 3), (160, .goto (-24), 3)]) (S2 := (136, [some (.ref 84), some (.long v1), z2, z3, some (.int v4), some (.long v5), (mm_no2 z6), some (.int (v7 + (-1 : Int32))), z8], [], (mm_pl M 99 v7.toNatClampNeg (M.2.1 99 (v7 - (1 : Int32)).toNatClampNeg)))) (by decide +kernel) (hO := mm_own_238) rfl ?_
    cases h
    exact (show mp_238_136 L xs (d + 1) v1 v4 v5 (v7 + (-1 : Int32)) (mm_pl M 99 v7.toNatClampNeg (M.2.1 99 (v7 - (1 : Int32)).toNatClampNeg)) o from hA) z2 z3 ((mm_no2 z6)) z8
  · replace h := mm_iq hc h
    cases h
    exact (show mp_238_163 L xs (d + 1) v1 v4 v5 M o from hA) z2 z3 z6 (some (.int v7)) z8
theorem ms_238_L136 {L : Nat} {xs : Nat → Int32} {d : Nat} (hd : 6 ≤ d) {v1 : Int64} {v4 : Int32} {v5 : Int64} {v7 : Int32} {β : Type} {K : β → mm_M → mm_E → Prop} {F : (Unit) → mm_M → mm_O β} {M : mm_M} {q : (β ⊕ Nat) × mm_M} {o : mm_E} (h : mm_B (mf_238_L136 v1 v4 v5 v7 M) F = some q) (hA : mm_A K q o) (hx : ∀ (r : (Unit)) (M2 : mm_M), F r M2 = some q → (fun r M o => mp_238_163 L xs (d) v1 v4 v5 M o) r M2 o) : mp_238_136 L xs d v1 v4 v5 v7 M o := mm_R_loop (s := v7) (M := M) (P := (fun s M o => mp_238_136 L xs (d) v1 v4 v5 s M o)) (X := (fun r M o => mp_238_163 L xs (d) v1 v4 v5 M o)) h hA (fun s M q hq hA => ms_238_b136 hd hq hA) hx
def mp_238_188 (L : Nat) (xs : Nat → Int32) (d : Nat) (v1 : Int64) (v4 : Int32) (v5 : Int64) (s1 : Int32) (M : mm_M) (o : mm_E) : Prop := ∀ z2 z3 z6 z7 z8 : Option Value, mm_Runs L xs d 238 (188, [some (.ref 84), some (.long v1), z2, z3, some (.int v4), some (.long v5), z6, z7, z8], [.int s1, .ref 84], M) o
def mp_238_450 (L : Nat) (xs : Nat → Int32) (d : Nat) (v1 : Int64) (v4 : Int32) (M : mm_M) (o : mm_E) : Prop := ∀ z2 z3 z5 z6 z7 z8 : Option Value, mm_Runs L xs d 238 (450, [some (.ref 84), some (.long v1), z2, z3, some (.int v4), z5, z6, z7, z8], [], M) o
noncomputable def mf_238_j450 (v1 : Int64) (v4 : Int32) (M : mm_M) : mm_O Int32 := mm_B (mf_240 v4 v1 M) (fun _ M1 => if mm_in (0 : Int32) 4 then mm_B (mf_196 v4 (M1.2.1 99 (0 : Int32).toNatClampNeg) (0 : Int32) M1) (fun _ M2 => some (.inl (1 : Int32), M2)) else none)
set_option maxRecDepth 8000 in
set_option maxHeartbeats 4000000 in
theorem ms_238_j450 {L : Nat} {xs : Nat → Int32} {d : Nat} (hd : 6 ≤ d) {v1 : Int64} {v4 : Int32} {M : mm_M} {q : (Int32 ⊕ Nat) × mm_M} {o : mm_E} (h : mf_238_j450 v1 v4 M = some q) (hA : mm_A (mm_Kr mm_wi) q o) : mp_238_450 L xs d v1 v4 M o := by
  unfold mf_238_j450 at h
  obtain ⟨d, rfl⟩ := mm_d1 (n := 5) hd
  intro z2 z3 z5 z6 z7 z8
  show mm_Runs L xs (d + 1) 238 (450, [some (.ref 84), some (.long v1), z2, z3, some (.int v4), z5, z6, z7, z8], [], M) o
  refine mm_Runs.seq (l := [(450, .aload_n 0, 1), (451, .iload 4, 2), (453, .lload_n 1, 1)]) (S2 := (454, [some (.ref 84), some (.long v1), z2, z3, some (.int v4), z5, z6, z7, z8], [.long v1, .int v4, .ref 84], M)) (by decide +kernel) (hO := mm_own_238) rfl ?_
  refine mm_R_call (v := mm_wv) h hA (k2 := 240) (as := [.ref 84, .int v4, .long v1]) (r := []) rfl (fun _ => rfl) (fun q hq o ho => ms_240 (by omega) hq ho) (fun _ M1 h => ?_)
  show mm_Runs L xs (d + 1) 238 (457, [some (.ref 84), some (.long v1), z2, z3, some (.int v4), z5, z6, z7, z8], [], M1) o
  refine mm_Runs.seq (l := [(457, .aload_n 0, 1), (458, .iload 4, 2), (460, .aload_n 0, 1), (461, .getfield 53, 3), (464, .iconst 0, 1)]) (S2 := (465, [some (.ref 84), some (.long v1), z2, z3, some (.int v4), z5, z6, z7, z8], [.int (0 : Int32), .ref 99, .int v4, .ref 84], M1)) (by decide +kernel) (hO := mm_own_238) rfl ?_
  obtain ⟨hb, h⟩ := mm_gd h
  refine mm_R_lald rfl rfl hb ?_
  refine mm_Runs.seq (l := [(466, .iconst 0, 1)]) (S2 := (467, [some (.ref 84), some (.long v1), z2, z3, some (.int v4), z5, z6, z7, z8], [.int (0 : Int32), .long (M1.2.1 99 (0 : Int32).toNatClampNeg), .int v4, .ref 84], M1)) (by decide +kernel) (hO := mm_own_238) rfl ?_
  refine mm_R_call (v := mm_wv) h hA (k2 := 196) (as := [.ref 84, .int v4, .long (M1.2.1 99 (0 : Int32).toNatClampNeg), .int (0 : Int32)]) (r := []) rfl (fun _ => rfl) (fun q hq o ho => ms_196 (by omega) hq ho) (fun _ M2 h => ?_)
  show mm_Runs L xs (d + 1) 238 (470, [some (.ref 84), some (.long v1), z2, z3, some (.int v4), z5, z6, z7, z8], [], M2) o
  refine mm_Runs.seq (l := [(470, .iconst 1, 1)]) (S2 := (471, [some (.ref 84), some (.long v1), z2, z3, some (.int v4), z5, z6, z7, z8], [.int (1 : Int32)], M2)) (by decide +kernel) (hO := mm_own_238) rfl ?_
  cases h
  exact mm_R_retb rfl rfl rfl hA
noncomputable def mf_238_j188 (v1 : Int64) (v4 : Int32) (v5 : Int64) (s1 : Int32) (M : mm_M) : mm_O Int32 := if (M.1 84 7) = 0 then (if v5 = (4294967296 : Int64) then (if v1 < (0 : Int64) then (some (.inl (0 : Int32), (mm_pi M 84 35 s1))) else (mf_238_j450 v1 v4 (mm_pi M 84 35 s1))) else (mf_238_j450 v1 v4 (mm_pi M 84 35 s1))) else (mf_238_j450 v1 v4 (mm_pi M 84 35 s1))
set_option maxRecDepth 8000 in
set_option maxHeartbeats 4000000 in
theorem ms_238_j188 {L : Nat} {xs : Nat → Int32} {d : Nat} (hd : 6 ≤ d) {v1 : Int64} {v4 : Int32} {v5 : Int64} {s1 : Int32} {M : mm_M} {q : (Int32 ⊕ Nat) × mm_M} {o : mm_E} (h : mf_238_j188 v1 v4 v5 s1 M = some q) (hA : mm_A (mm_Kr mm_wi) q o) : mp_238_188 L xs d v1 v4 v5 s1 M o := by
  unfold mf_238_j188 at h
  obtain ⟨d, rfl⟩ := mm_d1 (n := 5) hd
  intro z2 z3 z6 z7 z8
  show mm_Runs L xs (d + 1) 238 (188, [some (.ref 84), some (.long v1), z2, z3, some (.int v4), some (.long v5), z6, z7, z8], [.int s1, .ref 84], M) o
  refine mm_Runs.seq (l := [(188, .putfield 349, 3), (191, .aload_n 0, 1), (192, .getfield 154, 3)]) (S2 := (195, [some (.ref 84), some (.long v1), z2, z3, some (.int v4), some (.long v5), z6, z7, z8], [.int (M.1 84 7)], (mm_pi M 84 35 s1))) (by decide +kernel) (hO := mm_own_238) rfl ?_
  refine mm_R_zne (t := 215) rfl rfl rfl (fun hc => ?_) (fun hc => ?_)
  · replace h := mm_ip hc h
    refine mm_Runs.seq (l := [(198, .lload 5, 2), (200, .ldc2_w 368, 3)]) (S2 := (203, [some (.ref 84), some (.long v1), z2, z3, some (.int v4), some (.long v5), z6, z7, z8], [.long (4294967296 : Int64), .long v5], (mm_pi M 84 35 s1))) (by decide +kernel) (hO := mm_own_238) rfl ?_
    refine mm_R_lne (t := 215) rfl rfl rfl rfl (fun hc => ?_) (fun hc => ?_)
    · replace h := mm_ip hc h
      refine mm_Runs.seq (l := [(207, .lload_n 1, 1), (208, .lconst 0, 1)]) (S2 := (209, [some (.ref 84), some (.long v1), z2, z3, some (.int v4), some (.long v5), z6, z7, z8], [.long (0 : Int64), .long v1], (mm_pi M 84 35 s1))) (by decide +kernel) (hO := mm_own_238) rfl ?_
      refine mm_R_lge (t := 215) rfl rfl rfl rfl (fun hc => ?_) (fun hc => ?_)
      · replace h := mm_ip hc h
        refine mm_Runs.seq (l := [(213, .iconst 0, 1)]) (S2 := (214, [some (.ref 84), some (.long v1), z2, z3, some (.int v4), some (.long v5), z6, z7, z8], [.int (0 : Int32)], (mm_pi M 84 35 s1))) (by decide +kernel) (hO := mm_own_238) rfl ?_
        cases h
        exact mm_R_retb rfl rfl rfl hA
      · replace h := mm_iq hc h
        refine mm_Runs.seq (l := [(215, .goto 235, 3)]) (S2 := (450, [some (.ref 84), some (.long v1), z2, z3, some (.int v4), some (.long v5), z6, z7, z8], [], (mm_pi M 84 35 s1))) (by decide +kernel) (hO := mm_own_238) rfl ?_
        exact (ms_238_j450 hd h hA : mp_238_450 L xs (d + 1) v1 v4 (mm_pi M 84 35 s1) o) z2 z3 (some (.long v5)) z6 z7 z8
    · replace h := mm_iq hc h
      refine mm_Runs.seq (l := [(215, .goto 235, 3)]) (S2 := (450, [some (.ref 84), some (.long v1), z2, z3, some (.int v4), some (.long v5), z6, z7, z8], [], (mm_pi M 84 35 s1))) (by decide +kernel) (hO := mm_own_238) rfl ?_
      exact (ms_238_j450 hd h hA : mp_238_450 L xs (d + 1) v1 v4 (mm_pi M 84 35 s1) o) z2 z3 (some (.long v5)) z6 z7 z8
  · replace h := mm_iq hc h
    refine mm_Runs.seq (l := [(215, .goto 235, 3)]) (S2 := (450, [some (.ref 84), some (.long v1), z2, z3, some (.int v4), some (.long v5), z6, z7, z8], [], (mm_pi M 84 35 s1))) (by decide +kernel) (hO := mm_own_238) rfl ?_
    exact (ms_238_j450 hd h hA : mp_238_450 L xs (d + 1) v1 v4 (mm_pi M 84 35 s1) o) z2 z3 (some (.long v5)) z6 z7 z8
noncomputable def mf_238_j163 (v1 : Int64) (v4 : Int32) (v5 : Int64) (M : mm_M) : mm_O Int32 := if mm_in (0 : Int32) 4 then if (M.1 84 35) < (7 : Int32) then (mf_238_j188 v1 v4 v5 (7 : Int32) (mm_pl M 99 (0 : Int32).toNatClampNeg v5)) else (mf_238_j188 v1 v4 v5 (10 : Int32) (mm_pl M 99 (0 : Int32).toNatClampNeg v5)) else none
set_option maxRecDepth 8000 in
set_option maxHeartbeats 4000000 in
theorem ms_238_j163 {L : Nat} {xs : Nat → Int32} {d : Nat} (hd : 6 ≤ d) {v1 : Int64} {v4 : Int32} {v5 : Int64} {M : mm_M} {q : (Int32 ⊕ Nat) × mm_M} {o : mm_E} (h : mf_238_j163 v1 v4 v5 M = some q) (hA : mm_A (mm_Kr mm_wi) q o) : mp_238_163 L xs d v1 v4 v5 M o := by
  unfold mf_238_j163 at h
  obtain ⟨d, rfl⟩ := mm_d1 (n := 5) hd
  intro z2 z3 z6 z7 z8
  show mm_Runs L xs (d + 1) 238 (163, [some (.ref 84), some (.long v1), z2, z3, some (.int v4), some (.long v5), z6, z7, z8], [], M) o
  refine mm_Runs.seq (l := [(163, .aload_n 0, 1), (164, .getfield 53, 3), (167, .iconst 0, 1), (168, .lload 5, 2)]) (S2 := (170, [some (.ref 84), some (.long v1), z2, z3, some (.int v4), some (.long v5), z6, z7, z8], [.long v5, .int (0 : Int32), .ref 99], M)) (by decide +kernel) (hO := mm_own_238) rfl ?_
  obtain ⟨hb, h⟩ := mm_gd h
  refine mm_R_last rfl rfl hb ?_
  refine mm_Runs.seq (l := [(171, .aload_n 0, 1), (172, .aload_n 0, 1), (173, .getfield 349, 3), (176, .bipush 7, 2)]) (S2 := (178, [some (.ref 84), some (.long v1), z2, z3, some (.int v4), some (.long v5), z6, z7, z8], [.int (7 : Int32), .int (M.1 84 35), .ref 84], (mm_pl M 99 (0 : Int32).toNatClampNeg v5))) (by decide +kernel) (hO := mm_own_238) rfl ?_
  refine mm_R_ige (t := 186) rfl rfl rfl (fun hc => ?_) (fun hc => ?_)
  · replace h := mm_ip hc h
    refine mm_Runs.seq (l := [(181, .bipush 7, 2), (183, .goto 5, 3)]) (S2 := (188, [some (.ref 84), some (.long v1), z2, z3, some (.int v4), some (.long v5), z6, z7, z8], [.int (7 : Int32), .ref 84], (mm_pl M 99 (0 : Int32).toNatClampNeg v5))) (by decide +kernel) (hO := mm_own_238) rfl ?_
    exact (ms_238_j188 hd h hA : mp_238_188 L xs (d + 1) v1 v4 v5 (7 : Int32) (mm_pl M 99 (0 : Int32).toNatClampNeg v5) o) z2 z3 z6 z7 z8
  · replace h := mm_iq hc h
    refine mm_Runs.seq (l := [(186, .bipush 10, 2)]) (S2 := (188, [some (.ref 84), some (.long v1), z2, z3, some (.int v4), some (.long v5), z6, z7, z8], [.int (10 : Int32), .ref 84], (mm_pl M 99 (0 : Int32).toNatClampNeg v5))) (by decide +kernel) (hO := mm_own_238) rfl ?_
    exact (ms_238_j188 hd h hA : mp_238_188 L xs (d + 1) v1 v4 v5 (10 : Int32) (mm_pl M 99 (0 : Int32).toNatClampNeg v5) o) z2 z3 z6 z7 z8
def mp_238_263 (L : Nat) (xs : Nat → Int32) (d : Nat) (v1 : Int64) (v3 : Int32) (s0 : Int32) (M : mm_M) (o : mm_E) : Prop := ∀ z2 z4 z5 z6 z7 z8 : Option Value, mm_Runs L xs d 238 (263, [some (.ref 84), some (.long v1), z2, some (.int v3), z4, z5, z6, z7, z8], [.int s0], M) o
def mp_238_282 (L : Nat) (xs : Nat → Int32) (d : Nat) (v1 : Int64) (v5 : Int32) (s0 : Int32) (M : mm_M) (o : mm_E) : Prop := ∀ z2 z3 z4 z6 z7 z8 : Option Value, mm_Runs L xs d 238 (282, [some (.ref 84), some (.long v1), z2, z3, z4, some (.int v5), z6, z7, z8], [.int s0], M) o
noncomputable def mf_238_j282 (v1 : Int64) (v5 : Int32) (s0 : Int32) (M : mm_M) : mm_O Int32 := if v5 = 0 then (if (M.1 84 35) < (7 : Int32) then (mf_238_j450 v1 s0 (mm_pi M 84 35 (8 : Int32))) else (mf_238_j450 v1 s0 (mm_pi M 84 35 (11 : Int32)))) else (if (M.1 84 35) < (7 : Int32) then (mf_238_j450 v1 s0 (mm_pi M 84 35 (9 : Int32))) else (mf_238_j450 v1 s0 (mm_pi M 84 35 (11 : Int32))))
set_option maxRecDepth 8000 in
set_option maxHeartbeats 4000000 in
theorem ms_238_j282 {L : Nat} {xs : Nat → Int32} {d : Nat} (hd : 6 ≤ d) {v1 : Int64} {v5 : Int32} {s0 : Int32} {M : mm_M} {q : (Int32 ⊕ Nat) × mm_M} {o : mm_E} (h : mf_238_j282 v1 v5 s0 M = some q) (hA : mm_A (mm_Kr mm_wi) q o) : mp_238_282 L xs d v1 v5 s0 M o := by
  unfold mf_238_j282 at h
  obtain ⟨d, rfl⟩ := mm_d1 (n := 5) hd
  intro z2 z3 z4 z6 z7 z8
  show mm_Runs L xs (d + 1) 238 (282, [some (.ref 84), some (.long v1), z2, z3, z4, some (.int v5), z6, z7, z8], [.int s0], M) o
  refine mm_Runs.seq (l := [(282, .istore 4, 2), (284, .aload_n 0, 1), (285, .iload 5, 2)]) (S2 := (287, [some (.ref 84), some (.long v1), z2, (mm_no2 z3), some (.int s0), some (.int v5), z6, z7, z8], [.int v5, .ref 84], M)) (by decide +kernel) (hO := mm_own_238) rfl ?_
  refine mm_R_zeq (t := 309) rfl rfl rfl (fun hc => ?_) (fun hc => ?_)
  · replace h := mm_ip hc h
    refine mm_Runs.seq (l := [(309, .aload_n 0, 1), (310, .getfield 349, 3), (313, .bipush 7, 2)]) (S2 := (315, [some (.ref 84), some (.long v1), z2, (mm_no2 z3), some (.int s0), some (.int v5), z6, z7, z8], [.int (7 : Int32), .int (M.1 84 35), .ref 84], M)) (by decide +kernel) (hO := mm_own_238) rfl ?_
    refine mm_R_ige (t := 323) rfl rfl rfl (fun hc => ?_) (fun hc => ?_)
    · replace h := mm_ip hc h
      refine mm_Runs.seq (l := [(318, .bipush 8, 2), (320, .goto 5, 3), (325, .putfield 349, 3), (328, .goto 122, 3)]) (S2 := (450, [some (.ref 84), some (.long v1), z2, (mm_no2 z3), some (.int s0), some (.int v5), z6, z7, z8], [], (mm_pi M 84 35 (8 : Int32)))) (by decide +kernel) (hO := mm_own_238) rfl ?_
      exact (ms_238_j450 hd h hA : mp_238_450 L xs (d + 1) v1 s0 (mm_pi M 84 35 (8 : Int32)) o) z2 ((mm_no2 z3)) (some (.int v5)) z6 z7 z8
    · replace h := mm_iq hc h
      refine mm_Runs.seq (l := [(323, .bipush 11, 2), (325, .putfield 349, 3), (328, .goto 122, 3)]) (S2 := (450, [some (.ref 84), some (.long v1), z2, (mm_no2 z3), some (.int s0), some (.int v5), z6, z7, z8], [], (mm_pi M 84 35 (11 : Int32)))) (by decide +kernel) (hO := mm_own_238) rfl ?_
      exact (ms_238_j450 hd h hA : mp_238_450 L xs (d + 1) v1 s0 (mm_pi M 84 35 (11 : Int32)) o) z2 ((mm_no2 z3)) (some (.int v5)) z6 z7 z8
  · replace h := mm_iq hc h
    refine mm_Runs.seq (l := [(290, .aload_n 0, 1), (291, .getfield 349, 3), (294, .bipush 7, 2)]) (S2 := (296, [some (.ref 84), some (.long v1), z2, (mm_no2 z3), some (.int s0), some (.int v5), z6, z7, z8], [.int (7 : Int32), .int (M.1 84 35), .ref 84], M)) (by decide +kernel) (hO := mm_own_238) rfl ?_
    refine mm_R_ige (t := 304) rfl rfl rfl (fun hc => ?_) (fun hc => ?_)
    · replace h := mm_ip hc h
      refine mm_Runs.seq (l := [(299, .bipush 9, 2), (301, .goto 24, 3), (325, .putfield 349, 3), (328, .goto 122, 3)]) (S2 := (450, [some (.ref 84), some (.long v1), z2, (mm_no2 z3), some (.int s0), some (.int v5), z6, z7, z8], [], (mm_pi M 84 35 (9 : Int32)))) (by decide +kernel) (hO := mm_own_238) rfl ?_
      exact (ms_238_j450 hd h hA : mp_238_450 L xs (d + 1) v1 s0 (mm_pi M 84 35 (9 : Int32)) o) z2 ((mm_no2 z3)) (some (.int v5)) z6 z7 z8
    · replace h := mm_iq hc h
      refine mm_Runs.seq (l := [(304, .bipush 11, 2), (306, .goto 19, 3), (325, .putfield 349, 3), (328, .goto 122, 3)]) (S2 := (450, [some (.ref 84), some (.long v1), z2, (mm_no2 z3), some (.int s0), some (.int v5), z6, z7, z8], [], (mm_pi M 84 35 (11 : Int32)))) (by decide +kernel) (hO := mm_own_238) rfl ?_
      exact (ms_238_j450 hd h hA : mp_238_450 L xs (d + 1) v1 s0 (mm_pi M 84 35 (11 : Int32)) o) z2 ((mm_no2 z3)) (some (.int v5)) z6 z7 z8
noncomputable def mf_238_j263 (v1 : Int64) (v3 : Int32) (s0 : Int32) (M : mm_M) : mm_O Int32 := if s0 = 0 then (mm_B (mf_242 (946 : Int32) v3 M) (fun r1 M2 => mf_238_j282 v1 s0 r1 M2)) else (mf_238_j282 v1 s0 (1 : Int32) M)
set_option maxRecDepth 8000 in
set_option maxHeartbeats 4000000 in
theorem ms_238_j263 {L : Nat} {xs : Nat → Int32} {d : Nat} (hd : 6 ≤ d) {v1 : Int64} {v3 : Int32} {s0 : Int32} {M : mm_M} {q : (Int32 ⊕ Nat) × mm_M} {o : mm_E} (h : mf_238_j263 v1 v3 s0 M = some q) (hA : mm_A (mm_Kr mm_wi) q o) : mp_238_263 L xs d v1 v3 s0 M o := by
  unfold mf_238_j263 at h
  obtain ⟨d, rfl⟩ := mm_d1 (n := 5) hd
  intro z2 z4 z5 z6 z7 z8
  show mm_Runs L xs (d + 1) 238 (263, [some (.ref 84), some (.long v1), z2, some (.int v3), z4, z5, z6, z7, z8], [.int s0], M) o
  refine mm_Runs.seq (l := [(263, .istore 5, 2), (265, .iload 5, 2)]) (S2 := (267, [some (.ref 84), some (.long v1), z2, some (.int v3), (mm_no2 z4), some (.int s0), z6, z7, z8], [.int s0], M)) (by decide +kernel) (hO := mm_own_238) rfl ?_
  refine mm_R_zeq (t := 274) rfl rfl rfl (fun hc => ?_) (fun hc => ?_)
  · replace h := mm_ip hc h
    refine mm_Runs.seq (l := [(274, .aload_n 0, 1), (275, .sipush 946, 3), (278, .iload_n 3, 1)]) (S2 := (279, [some (.ref 84), some (.long v1), z2, some (.int v3), (mm_no2 z4), some (.int s0), z6, z7, z8], [.int v3, .int (946 : Int32), .ref 84], M)) (by decide +kernel) (hO := mm_own_238) rfl ?_
    refine mm_R_call (v := mm_wi) h hA (k2 := 242) (as := [.ref 84, .int (946 : Int32), .int v3]) (r := []) rfl (fun _ => rfl) (fun q hq o ho => ms_242 (by omega) hq ho) (fun r1 M2 h => ?_)
    show mm_Runs L xs (d + 1) 238 (282, [some (.ref 84), some (.long v1), z2, some (.int v3), (mm_no2 z4), some (.int s0), z6, z7, z8], [.int r1], M2) o
    exact (ms_238_j282 hd h hA : mp_238_282 L xs (d + 1) v1 s0 r1 M2 o) z2 (some (.int v3)) ((mm_no2 z4)) z6 z7 z8
  · replace h := mm_iq hc h
    refine mm_Runs.seq (l := [(270, .iconst 1, 1), (271, .goto 11, 3)]) (S2 := (282, [some (.ref 84), some (.long v1), z2, some (.int v3), (mm_no2 z4), some (.int s0), z6, z7, z8], [.int (1 : Int32)], M)) (by decide +kernel) (hO := mm_own_238) rfl ?_
    exact (ms_238_j282 hd h hA : mp_238_282 L xs (d + 1) v1 s0 (1 : Int32) M o) z2 (some (.int v3)) ((mm_no2 z4)) z6 z7 z8
def mp_238_364 (L : Nat) (xs : Nat → Int32) (d : Nat) (v1 : Int64) (v3 : Int32) (s0 : Int32) (M : mm_M) (o : mm_E) : Prop := ∀ z2 z4 z5 z6 z7 z8 : Option Value, mm_Runs L xs d 238 (364, [some (.ref 84), some (.long v1), z2, some (.int v3), z4, z5, z6, z7, z8], [.int s0], M) o
def mp_238_385 (L : Nat) (xs : Nat → Int32) (d : Nat) (v1 : Int64) (v3 : Int32) (v6 : Int64) (v8 : Int32) (M : mm_M) (o : mm_E) : Prop := ∀ z2 z4 z5 z7 : Option Value, mm_Runs L xs d 238 (385, [some (.ref 84), some (.long v1), z2, some (.int v3), z4, z5, some (.long v6), z7, some (.int v8)], [], M) o
def mp_238_412 (L : Nat) (xs : Nat → Int32) (d : Nat) (v1 : Int64) (v3 : Int32) (v6 : Int64) (M : mm_M) (o : mm_E) : Prop := ∀ z2 z4 z5 z7 z8 : Option Value, mm_Runs L xs d 238 (412, [some (.ref 84), some (.long v1), z2, some (.int v3), z4, z5, some (.long v6), z7, z8], [], M) o
noncomputable def mf_238_b385 (v1 : Int64) (v3 : Int32) (v6 : Int64) (v8 : Int32) (M : mm_M) : mm_O ((Int32) ⊕ (Unit)) := if 0 < v8 then (if mm_in (v8 - (1 : Int32)) 4 then if mm_in v8 4 then some (.inl (.inl (v8 + (-1 : Int32))), (mm_pl M 99 v8.toNatClampNeg (M.2.1 99 (v8 - (1 : Int32)).toNatClampNeg))) else none else none) else (some (.inl (.inr ()), M))
noncomputable def mf_238_L385 (v1 : Int64) (v3 : Int32) (v6 : Int64) (s : Int32) (M : mm_M) : mm_O (Unit) := mm_L (fun s M => mf_238_b385 v1 v3 v6 s M) s M
set_option maxRecDepth 8000 in
set_option maxHeartbeats 4000000 in
theorem ms_238_b385 {L : Nat} {xs : Nat → Int32} {d : Nat} (hd : 6 ≤ d) {v1 : Int64} {v3 : Int32} {v6 : Int64} {v8 : Int32} {M : mm_M} {q : (((Int32) ⊕ (Unit)) ⊕ Nat) × mm_M} {o : mm_E} (h : mf_238_b385 v1 v3 v6 v8 M = some q) (hA : mm_A (mm_K2 (fun s M o => mp_238_385 L xs (d) v1 v3 v6 s M o) (fun r M o => mp_238_412 L xs (d) v1 v3 v6 M o)) q o) : mp_238_385 L xs d v1 v3 v6 v8 M o := by
  unfold mf_238_b385 at h
  obtain ⟨d, rfl⟩ := mm_d1 (n := 5) hd
  intro z2 z4 z5 z7
  show mm_Runs L xs (d + 1) 238 (385, [some (.ref 84), some (.long v1), z2, some (.int v3), z4, z5, some (.long v6), z7, some (.int v8)], [], M) o
  refine mm_Runs.seq (l := [(385, .iload 8, 2)]) (S2 := (387, [some (.ref 84), some (.long v1), z2, some (.int v3), z4, z5, some (.long v6), z7, some (.int v8)], [.int v8], M)) (by decide +kernel) (hO := mm_own_238) rfl ?_
  refine mm_R_zle (t := 412) rfl rfl rfl (fun hc => ?_) (fun hc => ?_)
  · replace h := mm_ip hc h
    refine mm_Runs.seq (l := [(390, .aload_n 0, 1), (391, .getfield 53, 3), (394, .iload 8, 2), (396, .aload_n 0, 1), (397, .getfield 53, 3), (400, .iload 8, 2), (402, .iconst 1, 1), (403, .isub, 1)]) (S2 := (404, [some (.ref 84), some (.long v1), z2, some (.int v3), z4, z5, some (.long v6), z7, some (.int v8)], [.int (v8 - (1 : Int32)), .ref 99, .int v8, .ref 99], M)) (by decide +kernel) (hO := mm_own_238) rfl ?_
    obtain ⟨hb, h⟩ := mm_gd h
    refine mm_R_lald rfl rfl hb ?_
    obtain ⟨hb, h⟩ := mm_gd h
    refine mm_R_last rfl rfl hb ?_
    refine mm_Runs.seq (l := [(406, .iinc 8 (-1), 3), (409, .goto (-24), 3)]) (S2 := (385, [some (.ref 84), some (.long v1), z2, some (.int v3), z4, z5, some (.long v6), (mm_no2 z7), some (.int (v8 + (-1 : Int32)))], [], (mm_pl M 99 v8.toNatClampNeg (M.2.1 99 (v8 - (1 : Int32)).toNatClampNeg)))) (by decide +kernel) (hO := mm_own_238) rfl ?_
    cases h
    exact (show mp_238_385 L xs (d + 1) v1 v3 v6 (v8 + (-1 : Int32)) (mm_pl M 99 v8.toNatClampNeg (M.2.1 99 (v8 - (1 : Int32)).toNatClampNeg)) o from hA) z2 z4 z5 ((mm_no2 z7))
  · replace h := mm_iq hc h
    cases h
    exact (show mp_238_412 L xs (d + 1) v1 v3 v6 M o from hA) z2 z4 z5 z7 (some (.int v8))
theorem ms_238_L385 {L : Nat} {xs : Nat → Int32} {d : Nat} (hd : 6 ≤ d) {v1 : Int64} {v3 : Int32} {v6 : Int64} {v8 : Int32} {β : Type} {K : β → mm_M → mm_E → Prop} {F : (Unit) → mm_M → mm_O β} {M : mm_M} {q : (β ⊕ Nat) × mm_M} {o : mm_E} (h : mm_B (mf_238_L385 v1 v3 v6 v8 M) F = some q) (hA : mm_A K q o) (hx : ∀ (r : (Unit)) (M2 : mm_M), F r M2 = some q → (fun r M o => mp_238_412 L xs (d) v1 v3 v6 M o) r M2 o) : mp_238_385 L xs d v1 v3 v6 v8 M o := mm_R_loop (s := v8) (M := M) (P := (fun s M o => mp_238_385 L xs (d) v1 v3 v6 s M o)) (X := (fun r M o => mp_238_412 L xs (d) v1 v3 v6 M o)) h hA (fun s M q hq hA => ms_238_b385 hd hq hA) hx
def mp_238_447 (L : Nat) (xs : Nat → Int32) (d : Nat) (v1 : Int64) (v4 : Int32) (s1 : Int32) (M : mm_M) (o : mm_E) : Prop := ∀ z2 z3 z5 z6 z7 z8 : Option Value, mm_Runs L xs d 238 (447, [some (.ref 84), some (.long v1), z2, z3, some (.int v4), z5, z6, z7, z8], [.int s1, .ref 84], M) o
noncomputable def mf_238_j447 (v1 : Int64) (v4 : Int32) (s1 : Int32) (M : mm_M) : mm_O Int32 := mf_238_j450 v1 v4 (mm_pi M 84 35 s1)
set_option maxRecDepth 8000 in
set_option maxHeartbeats 4000000 in
theorem ms_238_j447 {L : Nat} {xs : Nat → Int32} {d : Nat} (hd : 6 ≤ d) {v1 : Int64} {v4 : Int32} {s1 : Int32} {M : mm_M} {q : (Int32 ⊕ Nat) × mm_M} {o : mm_E} (h : mf_238_j447 v1 v4 s1 M = some q) (hA : mm_A (mm_Kr mm_wi) q o) : mp_238_447 L xs d v1 v4 s1 M o := by
  unfold mf_238_j447 at h
  obtain ⟨d, rfl⟩ := mm_d1 (n := 5) hd
  intro z2 z3 z5 z6 z7 z8
  show mm_Runs L xs (d + 1) 238 (447, [some (.ref 84), some (.long v1), z2, z3, some (.int v4), z5, z6, z7, z8], [.int s1, .ref 84], M) o
  refine mm_Runs.seq (l := [(447, .putfield 349, 3)]) (S2 := (450, [some (.ref 84), some (.long v1), z2, z3, some (.int v4), z5, z6, z7, z8], [], (mm_pi M 84 35 s1))) (by decide +kernel) (hO := mm_own_238) rfl ?_
  exact (ms_238_j450 hd h hA : mp_238_450 L xs (d + 1) v1 v4 (mm_pi M 84 35 s1) o) z2 z3 z5 z6 z7 z8
noncomputable def mf_238_j412 (v1 : Int64) (v3 : Int32) (v6 : Int64) (M : mm_M) : mm_O Int32 := if mm_in (0 : Int32) 4 then mm_B (mf_242 (946 : Int32) v3 (mm_pl M 99 (0 : Int32).toNatClampNeg v6)) (fun r1 M2 => if (M2.1 84 35) < (7 : Int32) then (mf_238_j447 v1 r1 (8 : Int32) M2) else (mf_238_j447 v1 r1 (11 : Int32) M2)) else none
set_option maxRecDepth 8000 in
set_option maxHeartbeats 4000000 in
theorem ms_238_j412 {L : Nat} {xs : Nat → Int32} {d : Nat} (hd : 6 ≤ d) {v1 : Int64} {v3 : Int32} {v6 : Int64} {M : mm_M} {q : (Int32 ⊕ Nat) × mm_M} {o : mm_E} (h : mf_238_j412 v1 v3 v6 M = some q) (hA : mm_A (mm_Kr mm_wi) q o) : mp_238_412 L xs d v1 v3 v6 M o := by
  unfold mf_238_j412 at h
  obtain ⟨d, rfl⟩ := mm_d1 (n := 5) hd
  intro z2 z4 z5 z7 z8
  show mm_Runs L xs (d + 1) 238 (412, [some (.ref 84), some (.long v1), z2, some (.int v3), z4, z5, some (.long v6), z7, z8], [], M) o
  refine mm_Runs.seq (l := [(412, .aload_n 0, 1), (413, .getfield 53, 3), (416, .iconst 0, 1), (417, .lload 6, 2)]) (S2 := (419, [some (.ref 84), some (.long v1), z2, some (.int v3), z4, z5, some (.long v6), z7, z8], [.long v6, .int (0 : Int32), .ref 99], M)) (by decide +kernel) (hO := mm_own_238) rfl ?_
  obtain ⟨hb, h⟩ := mm_gd h
  refine mm_R_last rfl rfl hb ?_
  refine mm_Runs.seq (l := [(420, .aload_n 0, 1), (421, .sipush 946, 3), (424, .iload_n 3, 1)]) (S2 := (425, [some (.ref 84), some (.long v1), z2, some (.int v3), z4, z5, some (.long v6), z7, z8], [.int v3, .int (946 : Int32), .ref 84], (mm_pl M 99 (0 : Int32).toNatClampNeg v6))) (by decide +kernel) (hO := mm_own_238) rfl ?_
  refine mm_R_call (v := mm_wi) h hA (k2 := 242) (as := [.ref 84, .int (946 : Int32), .int v3]) (r := []) rfl (fun _ => rfl) (fun q hq o ho => ms_242 (by omega) hq ho) (fun r1 M2 h => ?_)
  show mm_Runs L xs (d + 1) 238 (428, [some (.ref 84), some (.long v1), z2, some (.int v3), z4, z5, some (.long v6), z7, z8], [.int r1], M2) o
  refine mm_Runs.seq (l := [(428, .istore 4, 2), (430, .aload_n 0, 1), (431, .aload_n 0, 1), (432, .getfield 349, 3), (435, .bipush 7, 2)]) (S2 := (437, [some (.ref 84), some (.long v1), z2, some (.int v3), some (.int r1), z5, some (.long v6), z7, z8], [.int (7 : Int32), .int (M2.1 84 35), .ref 84], M2)) (by decide +kernel) (hO := mm_own_238) rfl ?_
  refine mm_R_ige (t := 445) rfl rfl rfl (fun hc => ?_) (fun hc => ?_)
  · replace h := mm_ip hc h
    refine mm_Runs.seq (l := [(440, .bipush 8, 2), (442, .goto 5, 3)]) (S2 := (447, [some (.ref 84), some (.long v1), z2, some (.int v3), some (.int r1), z5, some (.long v6), z7, z8], [.int (8 : Int32), .ref 84], M2)) (by decide +kernel) (hO := mm_own_238) rfl ?_
    exact (ms_238_j447 hd h hA : mp_238_447 L xs (d + 1) v1 r1 (8 : Int32) M2 o) z2 (some (.int v3)) z5 (some (.long v6)) z7 z8
  · replace h := mm_iq hc h
    refine mm_Runs.seq (l := [(445, .bipush 11, 2)]) (S2 := (447, [some (.ref 84), some (.long v1), z2, some (.int v3), some (.int r1), z5, some (.long v6), z7, z8], [.int (11 : Int32), .ref 84], M2)) (by decide +kernel) (hO := mm_own_238) rfl ?_
    exact (ms_238_j447 hd h hA : mp_238_447 L xs (d + 1) v1 r1 (11 : Int32) M2 o) z2 (some (.int v3)) z5 (some (.long v6)) z7 z8
noncomputable def mf_238_j364 (v1 : Int64) (v3 : Int32) (s0 : Int32) (M : mm_M) : mm_O Int32 := mm_B (mf_239 s0 M) (fun _ M1 => if mm_in s0 4 then mm_B (mf_238_L385 v1 v3 (M1.2.1 99 s0.toNatClampNeg) s0 M1) (fun r3 M2 => mf_238_j412 v1 v3 (M1.2.1 99 s0.toNatClampNeg) M2) else none)
set_option maxRecDepth 8000 in
set_option maxHeartbeats 4000000 in
theorem ms_238_j364 {L : Nat} {xs : Nat → Int32} {d : Nat} (hd : 6 ≤ d) {v1 : Int64} {v3 : Int32} {s0 : Int32} {M : mm_M} {q : (Int32 ⊕ Nat) × mm_M} {o : mm_E} (h : mf_238_j364 v1 v3 s0 M = some q) (hA : mm_A (mm_Kr mm_wi) q o) : mp_238_364 L xs d v1 v3 s0 M o := by
  unfold mf_238_j364 at h
  obtain ⟨d, rfl⟩ := mm_d1 (n := 5) hd
  intro z2 z4 z5 z6 z7 z8
  show mm_Runs L xs (d + 1) 238 (364, [some (.ref 84), some (.long v1), z2, some (.int v3), z4, z5, z6, z7, z8], [.int s0], M) o
  refine mm_Runs.seq (l := [(364, .istore 5, 2), (366, .aload_n 0, 1), (367, .iload 5, 2)]) (S2 := (369, [some (.ref 84), some (.long v1), z2, some (.int v3), (mm_no2 z4), some (.int s0), z6, z7, z8], [.int s0, .ref 84], M)) (by decide +kernel) (hO := mm_own_238) rfl ?_
  refine mm_R_call (v := mm_wv) h hA (k2 := 239) (as := [.ref 84, .int s0]) (r := []) rfl (fun _ => rfl) (fun q hq o ho => ms_239 (by omega) hq ho) (fun _ M1 h => ?_)
  show mm_Runs L xs (d + 1) 238 (372, [some (.ref 84), some (.long v1), z2, some (.int v3), (mm_no2 z4), some (.int s0), z6, z7, z8], [], M1) o
  refine mm_Runs.seq (l := [(372, .aload_n 0, 1), (373, .getfield 53, 3), (376, .iload 5, 2)]) (S2 := (378, [some (.ref 84), some (.long v1), z2, some (.int v3), (mm_no2 z4), some (.int s0), z6, z7, z8], [.int s0, .ref 99], M1)) (by decide +kernel) (hO := mm_own_238) rfl ?_
  obtain ⟨hb, h⟩ := mm_gd h
  refine mm_R_lald rfl rfl hb ?_
  refine mm_Runs.seq (l := [(379, .lstore 6, 2), (381, .iload 5, 2), (383, .istore 8, 2)]) (S2 := (385, [some (.ref 84), some (.long v1), z2, some (.int v3), (mm_no2 z4), some (.int s0), some (.long (M1.2.1 99 s0.toNatClampNeg)), none, some (.int s0)], [], M1)) (by decide +kernel) (hO := mm_own_238) rfl ?_
  have hp : mp_238_385 L xs (d + 1) v1 v3 (M1.2.1 99 s0.toNatClampNeg) s0 M1 o := by
    refine ms_238_L385 hd h hA (fun r3 M2 h => ?_)
    intro y4 y5 y6 y7 y8
    show mm_Runs L xs (d + 1) 238 (412, [some (.ref 84), some (.long v1), y4, some (.int v3), y5, y6, some (.long (M1.2.1 99 s0.toNatClampNeg)), y7, y8], [], M2) o
    exact (ms_238_j412 hd h hA : mp_238_412 L xs (d + 1) v1 v3 (M1.2.1 99 s0.toNatClampNeg) M2 o) y4 y5 y6 y7 y8
  exact hp z2 ((mm_no2 z4)) (some (.int s0)) none
noncomputable def mf_238 (v1 : Int64) (M : mm_M) : mm_O Int32 := mm_B (mf_233 (((0 : Int32) + ((16 : Int32) * (M.1 84 35))) + ((M.1 84 4) &&& ((mm_shl (1 : Int32) (M.1 84 39)) - (1 : Int32)))) M) (fun r1 M2 => if r1 = 0 then (mm_B (mf_241 M2) (fun _ M3 => if (M3.1 84 35) < (4 : Int32) then (some (.inl (1 : Int32), (mm_pi M3 84 35 (0 : Int32)))) else (if (M3.1 84 35) < (10 : Int32) then (some (.inl (1 : Int32), (mm_pi M3 84 35 ((M3.1 84 35) - (3 : Int32))))) else (some (.inl (1 : Int32), (mm_pi M3 84 35 ((M3.1 84 35) - (6 : Int32)))))))) else (mm_B (mf_233 ((192 : Int32) + (M2.1 84 35)) M2) (fun r4 M5 => if r4 = 0 then (mm_B (mf_242 (432 : Int32) ((M.1 84 4) &&& ((mm_shl (1 : Int32) (M.1 84 39)) - (1 : Int32))) M5) (fun r6 M7 => mm_B (mf_240 r6 v1 M7) (fun _ M8 => if (M8.1 84 7) = 0 then (mm_B (mf_243 r6 M8) (fun r9 M10 => mm_B (mf_238_L136 v1 r6 r9 (3 : Int32) M10) (fun r12 M11 => mf_238_j163 v1 r6 r9 M11))) else (mm_B (mf_238_L136 v1 r6 (1 : Int64) (3 : Int32) M8) (fun r19 M18 => mf_238_j163 v1 r6 (1 : Int64) M18))))) else (mm_B (mf_233 ((204 : Int32) + (M5.1 84 35)) M5) (fun r25 M26 => if r25 = 0 then (mm_B (mf_239 (0 : Int32) M26) (fun _ M27 => mm_B (mf_233 (((216 : Int32) + ((16 : Int32) * (M27.1 84 35))) + ((M.1 84 4) &&& ((mm_shl (1 : Int32) (M.1 84 39)) - (1 : Int32)))) M27) (fun r28 M29 => if r28 = 0 then (mf_238_j263 v1 ((M.1 84 4) &&& ((mm_shl (1 : Int32) (M.1 84 39)) - (1 : Int32))) (1 : Int32) M29) else (mf_238_j263 v1 ((M.1 84 4) &&& ((mm_shl (1 : Int32) (M.1 84 39)) - (1 : Int32))) (0 : Int32) M29)))) else (mm_B (mf_233 ((408 : Int32) + (M26.1 84 35)) M26) (fun r30 M31 => if r30 = 0 then (mf_238_j364 v1 ((M.1 84 4) &&& ((mm_shl (1 : Int32) (M.1 84 39)) - (1 : Int32))) (1 : Int32) M31) else (mm_B (mf_233 ((420 : Int32) + (M31.1 84 35)) M31) (fun r32 M33 => mf_238_j364 v1 ((M.1 84 4) &&& ((mm_shl (1 : Int32) (M.1 84 39)) - (1 : Int32))) ((2 : Int32) + r32) M33)))))))))
set_option maxRecDepth 8000 in
set_option maxHeartbeats 4000000 in
theorem ms_238 {L : Nat} {xs : Nat → Int32} {d : Nat} (hd : 6 ≤ d) {v1 : Int64} {M : mm_M} {q : (Int32 ⊕ Nat) × mm_M} {o : mm_E} (h : mf_238 v1 M = some q) (hA : mm_A (mm_Kr mm_wi) q o) : mm_Runs L xs d 238 (0, mm_ent (mm_ml 238) [.ref 84, .long v1], [], M) o := by
  unfold mf_238 at h
  obtain ⟨d, rfl⟩ := mm_d1 (n := 5) hd
  show mm_Runs L xs (d + 1) 238 (0, [some (.ref 84), some (.long v1), none, none, none, none, none, none, none], [], M) o
  refine mm_Runs.seq (l := [(0, .aload_n 0, 1), (1, .getfield 98, 3), (4, .iconst 1, 1), (5, .aload_n 0, 1), (6, .getfield 346, 3), (9, .ishl, 1), (10, .iconst 1, 1), (11, .isub, 1), (12, .iand, 1), (13, .istore_n 3, 1), (14, .aload_n 0, 1), (15, .iconst 0, 1), (16, .bipush 16, 2), (18, .aload_n 0, 1), (19, .getfield 349, 3), (22, .imul, 1), (23, .iadd, 1), (24, .iload_n 3, 1), (25, .iadd, 1)]) (S2 := (26, [some (.ref 84), some (.long v1), none, some (.int ((M.1 84 4) &&& ((mm_shl (1 : Int32) (M.1 84 39)) - (1 : Int32)))), none, none, none, none, none], [.int (((0 : Int32) + ((16 : Int32) * (M.1 84 35))) + ((M.1 84 4) &&& ((mm_shl (1 : Int32) (M.1 84 39)) - (1 : Int32)))), .ref 84], M)) (by decide +kernel) (hO := mm_own_238) rfl ?_
  refine mm_R_call (v := mm_wi) h hA (k2 := 233) (as := [.ref 84, .int (((0 : Int32) + ((16 : Int32) * (M.1 84 35))) + ((M.1 84 4) &&& ((mm_shl (1 : Int32) (M.1 84 39)) - (1 : Int32))))]) (r := []) rfl (fun _ => rfl) (fun q hq o ho => ms_233 (by omega) hq ho) (fun r1 M2 h => ?_)
  show mm_Runs L xs (d + 1) 238 (29, [some (.ref 84), some (.long v1), none, some (.int ((M.1 84 4) &&& ((mm_shl (1 : Int32) (M.1 84 39)) - (1 : Int32)))), none, none, none, none, none], [.int r1], M2) o
  refine mm_R_zne (t := 79) rfl rfl rfl (fun hc => ?_) (fun hc => ?_)
  · replace h := mm_ip hc h
    refine mm_Runs.seq (l := [(32, .aload_n 0, 1)]) (S2 := (33, [some (.ref 84), some (.long v1), none, some (.int ((M.1 84 4) &&& ((mm_shl (1 : Int32) (M.1 84 39)) - (1 : Int32)))), none, none, none, none, none], [.ref 84], M2)) (by decide +kernel) (hO := mm_own_238) rfl ?_
    refine mm_R_call (v := mm_wv) h hA (k2 := 241) (as := [.ref 84]) (r := []) rfl (fun _ => rfl) (fun q hq o ho => ms_241 (by omega) hq ho) (fun _ M3 h => ?_)
    show mm_Runs L xs (d + 1) 238 (36, [some (.ref 84), some (.long v1), none, some (.int ((M.1 84 4) &&& ((mm_shl (1 : Int32) (M.1 84 39)) - (1 : Int32)))), none, none, none, none, none], [], M3) o
    refine mm_Runs.seq (l := [(36, .aload_n 0, 1), (37, .aload_n 0, 1), (38, .getfield 349, 3), (41, .iconst 4, 1)]) (S2 := (42, [some (.ref 84), some (.long v1), none, some (.int ((M.1 84 4) &&& ((mm_shl (1 : Int32) (M.1 84 39)) - (1 : Int32)))), none, none, none, none, none], [.int (4 : Int32), .int (M3.1 84 35), .ref 84], M3)) (by decide +kernel) (hO := mm_own_238) rfl ?_
    refine mm_R_ige (t := 49) rfl rfl rfl (fun hc => ?_) (fun hc => ?_)
    · replace h := mm_ip hc h
      refine mm_Runs.seq (l := [(45, .iconst 0, 1), (46, .goto 28, 3), (74, .putfield 349, 3), (77, .iconst 1, 1)]) (S2 := (78, [some (.ref 84), some (.long v1), none, some (.int ((M.1 84 4) &&& ((mm_shl (1 : Int32) (M.1 84 39)) - (1 : Int32)))), none, none, none, none, none], [.int (1 : Int32)], (mm_pi M3 84 35 (0 : Int32)))) (by decide +kernel) (hO := mm_own_238) rfl ?_
      cases h
      exact mm_R_retb rfl rfl rfl hA
    · replace h := mm_iq hc h
      refine mm_Runs.seq (l := [(49, .aload_n 0, 1), (50, .getfield 349, 3), (53, .bipush 10, 2)]) (S2 := (55, [some (.ref 84), some (.long v1), none, some (.int ((M.1 84 4) &&& ((mm_shl (1 : Int32) (M.1 84 39)) - (1 : Int32)))), none, none, none, none, none], [.int (10 : Int32), .int (M3.1 84 35), .ref 84], M3)) (by decide +kernel) (hO := mm_own_238) rfl ?_
      refine mm_R_ige (t := 67) rfl rfl rfl (fun hc => ?_) (fun hc => ?_)
      · replace h := mm_ip hc h
        refine mm_Runs.seq (l := [(58, .aload_n 0, 1), (59, .getfield 349, 3), (62, .iconst 3, 1), (63, .isub, 1), (64, .goto 10, 3), (74, .putfield 349, 3), (77, .iconst 1, 1)]) (S2 := (78, [some (.ref 84), some (.long v1), none, some (.int ((M.1 84 4) &&& ((mm_shl (1 : Int32) (M.1 84 39)) - (1 : Int32)))), none, none, none, none, none], [.int (1 : Int32)], (mm_pi M3 84 35 ((M3.1 84 35) - (3 : Int32))))) (by decide +kernel) (hO := mm_own_238) rfl ?_
        cases h
        exact mm_R_retb rfl rfl rfl hA
      · replace h := mm_iq hc h
        refine mm_Runs.seq (l := [(67, .aload_n 0, 1), (68, .getfield 349, 3), (71, .bipush 6, 2), (73, .isub, 1), (74, .putfield 349, 3), (77, .iconst 1, 1)]) (S2 := (78, [some (.ref 84), some (.long v1), none, some (.int ((M.1 84 4) &&& ((mm_shl (1 : Int32) (M.1 84 39)) - (1 : Int32)))), none, none, none, none, none], [.int (1 : Int32)], (mm_pi M3 84 35 ((M3.1 84 35) - (6 : Int32))))) (by decide +kernel) (hO := mm_own_238) rfl ?_
        cases h
        exact mm_R_retb rfl rfl rfl hA
  · replace h := mm_iq hc h
    refine mm_Runs.seq (l := [(79, .iconst 1, 1), (80, .istore 4, 2), (82, .aload_n 0, 1), (83, .sipush 192, 3), (86, .aload_n 0, 1), (87, .getfield 349, 3), (90, .iadd, 1)]) (S2 := (91, [some (.ref 84), some (.long v1), none, some (.int ((M.1 84 4) &&& ((mm_shl (1 : Int32) (M.1 84 39)) - (1 : Int32)))), some (.int (1 : Int32)), none, none, none, none], [.int ((192 : Int32) + (M2.1 84 35)), .ref 84], M2)) (by decide +kernel) (hO := mm_own_238) rfl ?_
    refine mm_R_call (v := mm_wi) h hA (k2 := 233) (as := [.ref 84, .int ((192 : Int32) + (M2.1 84 35))]) (r := []) rfl (fun _ => rfl) (fun q hq o ho => ms_233 (by omega) hq ho) (fun r4 M5 h => ?_)
    show mm_Runs L xs (d + 1) 238 (94, [some (.ref 84), some (.long v1), none, some (.int ((M.1 84 4) &&& ((mm_shl (1 : Int32) (M.1 84 39)) - (1 : Int32)))), some (.int (1 : Int32)), none, none, none, none], [.int r4], M5) o
    refine mm_R_zne (t := 218) rfl rfl rfl (fun hc => ?_) (fun hc => ?_)
    · replace h := mm_ip hc h
      refine mm_Runs.seq (l := [(97, .aload_n 0, 1), (98, .sipush 432, 3), (101, .iload_n 3, 1)]) (S2 := (102, [some (.ref 84), some (.long v1), none, some (.int ((M.1 84 4) &&& ((mm_shl (1 : Int32) (M.1 84 39)) - (1 : Int32)))), some (.int (1 : Int32)), none, none, none, none], [.int ((M.1 84 4) &&& ((mm_shl (1 : Int32) (M.1 84 39)) - (1 : Int32))), .int (432 : Int32), .ref 84], M5)) (by decide +kernel) (hO := mm_own_238) rfl ?_
      refine mm_R_call (v := mm_wi) h hA (k2 := 242) (as := [.ref 84, .int (432 : Int32), .int ((M.1 84 4) &&& ((mm_shl (1 : Int32) (M.1 84 39)) - (1 : Int32)))]) (r := []) rfl (fun _ => rfl) (fun q hq o ho => ms_242 (by omega) hq ho) (fun r6 M7 h => ?_)
      show mm_Runs L xs (d + 1) 238 (105, [some (.ref 84), some (.long v1), none, some (.int ((M.1 84 4) &&& ((mm_shl (1 : Int32) (M.1 84 39)) - (1 : Int32)))), some (.int (1 : Int32)), none, none, none, none], [.int r6], M7) o
      refine mm_Runs.seq (l := [(105, .istore 4, 2), (107, .aload_n 0, 1), (108, .iload 4, 2), (110, .lload_n 1, 1)]) (S2 := (111, [some (.ref 84), some (.long v1), none, some (.int ((M.1 84 4) &&& ((mm_shl (1 : Int32) (M.1 84 39)) - (1 : Int32)))), some (.int r6), none, none, none, none], [.long v1, .int r6, .ref 84], M7)) (by decide +kernel) (hO := mm_own_238) rfl ?_
      refine mm_R_call (v := mm_wv) h hA (k2 := 240) (as := [.ref 84, .int r6, .long v1]) (r := []) rfl (fun _ => rfl) (fun q hq o ho => ms_240 (by omega) hq ho) (fun _ M8 h => ?_)
      show mm_Runs L xs (d + 1) 238 (114, [some (.ref 84), some (.long v1), none, some (.int ((M.1 84 4) &&& ((mm_shl (1 : Int32) (M.1 84 39)) - (1 : Int32)))), some (.int r6), none, none, none, none], [], M8) o
      refine mm_Runs.seq (l := [(114, .aload_n 0, 1), (115, .getfield 154, 3)]) (S2 := (118, [some (.ref 84), some (.long v1), none, some (.int ((M.1 84 4) &&& ((mm_shl (1 : Int32) (M.1 84 39)) - (1 : Int32)))), some (.int r6), none, none, none, none], [.int (M8.1 84 7)], M8)) (by decide +kernel) (hO := mm_own_238) rfl ?_
      refine mm_R_zeq (t := 125) rfl rfl rfl (fun hc => ?_) (fun hc => ?_)
      · replace h := mm_ip hc h
        refine mm_Runs.seq (l := [(125, .aload_n 0, 1), (126, .iload 4, 2)]) (S2 := (128, [some (.ref 84), some (.long v1), none, some (.int ((M.1 84 4) &&& ((mm_shl (1 : Int32) (M.1 84 39)) - (1 : Int32)))), some (.int r6), none, none, none, none], [.int r6, .ref 84], M8)) (by decide +kernel) (hO := mm_own_238) rfl ?_
        refine mm_R_call (v := mm_wl) h hA (k2 := 243) (as := [.ref 84, .int r6]) (r := []) rfl (fun _ => rfl) (fun q hq o ho => ms_243 (by omega) hq ho) (fun r9 M10 h => ?_)
        show mm_Runs L xs (d + 1) 238 (131, [some (.ref 84), some (.long v1), none, some (.int ((M.1 84 4) &&& ((mm_shl (1 : Int32) (M.1 84 39)) - (1 : Int32)))), some (.int r6), none, none, none, none], [.long r9], M10) o
        refine mm_Runs.seq (l := [(131, .lstore 5, 2), (133, .iconst 3, 1), (134, .istore 7, 2)]) (S2 := (136, [some (.ref 84), some (.long v1), none, some (.int ((M.1 84 4) &&& ((mm_shl (1 : Int32) (M.1 84 39)) - (1 : Int32)))), some (.int r6), some (.long r9), none, some (.int (3 : Int32)), none], [], M10)) (by decide +kernel) (hO := mm_own_238) rfl ?_
        have hp : mp_238_136 L xs (d + 1) v1 r6 r9 (3 : Int32) M10 o := by
          refine ms_238_L136 hd h hA (fun r12 M11 h => ?_)
          intro y13 y14 y15 y16 y17
          show mm_Runs L xs (d + 1) 238 (163, [some (.ref 84), some (.long v1), y13, y14, some (.int r6), some (.long r9), y15, y16, y17], [], M11) o
          exact (ms_238_j163 hd h hA : mp_238_163 L xs (d + 1) v1 r6 r9 M11 o) y13 y14 y15 y16 y17
        exact hp none (some (.int ((M.1 84 4) &&& ((mm_shl (1 : Int32) (M.1 84 39)) - (1 : Int32))))) none none
      · replace h := mm_iq hc h
        refine mm_Runs.seq (l := [(121, .lconst 1, 1), (122, .goto 9, 3), (131, .lstore 5, 2), (133, .iconst 3, 1), (134, .istore 7, 2)]) (S2 := (136, [some (.ref 84), some (.long v1), none, some (.int ((M.1 84 4) &&& ((mm_shl (1 : Int32) (M.1 84 39)) - (1 : Int32)))), some (.int r6), some (.long (1 : Int64)), none, some (.int (3 : Int32)), none], [], M8)) (by decide +kernel) (hO := mm_own_238) rfl ?_
        have hp : mp_238_136 L xs (d + 1) v1 r6 (1 : Int64) (3 : Int32) M8 o := by
          refine ms_238_L136 hd h hA (fun r19 M18 h => ?_)
          intro y20 y21 y22 y23 y24
          show mm_Runs L xs (d + 1) 238 (163, [some (.ref 84), some (.long v1), y20, y21, some (.int r6), some (.long (1 : Int64)), y22, y23, y24], [], M18) o
          exact (ms_238_j163 hd h hA : mp_238_163 L xs (d + 1) v1 r6 (1 : Int64) M18 o) y20 y21 y22 y23 y24
        exact hp none (some (.int ((M.1 84 4) &&& ((mm_shl (1 : Int32) (M.1 84 39)) - (1 : Int32))))) none none
    · replace h := mm_iq hc h
      refine mm_Runs.seq (l := [(218, .aload_n 0, 1), (219, .sipush 204, 3), (222, .aload_n 0, 1), (223, .getfield 349, 3), (226, .iadd, 1)]) (S2 := (227, [some (.ref 84), some (.long v1), none, some (.int ((M.1 84 4) &&& ((mm_shl (1 : Int32) (M.1 84 39)) - (1 : Int32)))), some (.int (1 : Int32)), none, none, none, none], [.int ((204 : Int32) + (M5.1 84 35)), .ref 84], M5)) (by decide +kernel) (hO := mm_own_238) rfl ?_
      refine mm_R_call (v := mm_wi) h hA (k2 := 233) (as := [.ref 84, .int ((204 : Int32) + (M5.1 84 35))]) (r := []) rfl (fun _ => rfl) (fun q hq o ho => ms_233 (by omega) hq ho) (fun r25 M26 h => ?_)
      show mm_Runs L xs (d + 1) 238 (230, [some (.ref 84), some (.long v1), none, some (.int ((M.1 84 4) &&& ((mm_shl (1 : Int32) (M.1 84 39)) - (1 : Int32)))), some (.int (1 : Int32)), none, none, none, none], [.int r25], M26) o
      refine mm_R_zne (t := 331) rfl rfl rfl (fun hc => ?_) (fun hc => ?_)
      · replace h := mm_ip hc h
        refine mm_Runs.seq (l := [(233, .aload_n 0, 1), (234, .iconst 0, 1)]) (S2 := (235, [some (.ref 84), some (.long v1), none, some (.int ((M.1 84 4) &&& ((mm_shl (1 : Int32) (M.1 84 39)) - (1 : Int32)))), some (.int (1 : Int32)), none, none, none, none], [.int (0 : Int32), .ref 84], M26)) (by decide +kernel) (hO := mm_own_238) rfl ?_
        refine mm_R_call (v := mm_wv) h hA (k2 := 239) (as := [.ref 84, .int (0 : Int32)]) (r := []) rfl (fun _ => rfl) (fun q hq o ho => ms_239 (by omega) hq ho) (fun _ M27 h => ?_)
        show mm_Runs L xs (d + 1) 238 (238, [some (.ref 84), some (.long v1), none, some (.int ((M.1 84 4) &&& ((mm_shl (1 : Int32) (M.1 84 39)) - (1 : Int32)))), some (.int (1 : Int32)), none, none, none, none], [], M27) o
        refine mm_Runs.seq (l := [(238, .aload_n 0, 1), (239, .sipush 216, 3), (242, .bipush 16, 2), (244, .aload_n 0, 1), (245, .getfield 349, 3), (248, .imul, 1), (249, .iadd, 1), (250, .iload_n 3, 1), (251, .iadd, 1)]) (S2 := (252, [some (.ref 84), some (.long v1), none, some (.int ((M.1 84 4) &&& ((mm_shl (1 : Int32) (M.1 84 39)) - (1 : Int32)))), some (.int (1 : Int32)), none, none, none, none], [.int (((216 : Int32) + ((16 : Int32) * (M27.1 84 35))) + ((M.1 84 4) &&& ((mm_shl (1 : Int32) (M.1 84 39)) - (1 : Int32)))), .ref 84], M27)) (by decide +kernel) (hO := mm_own_238) rfl ?_
        refine mm_R_call (v := mm_wi) h hA (k2 := 233) (as := [.ref 84, .int (((216 : Int32) + ((16 : Int32) * (M27.1 84 35))) + ((M.1 84 4) &&& ((mm_shl (1 : Int32) (M.1 84 39)) - (1 : Int32))))]) (r := []) rfl (fun _ => rfl) (fun q hq o ho => ms_233 (by omega) hq ho) (fun r28 M29 h => ?_)
        show mm_Runs L xs (d + 1) 238 (255, [some (.ref 84), some (.long v1), none, some (.int ((M.1 84 4) &&& ((mm_shl (1 : Int32) (M.1 84 39)) - (1 : Int32)))), some (.int (1 : Int32)), none, none, none, none], [.int r28], M29) o
        refine mm_R_zne (t := 262) rfl rfl rfl (fun hc => ?_) (fun hc => ?_)
        · replace h := mm_ip hc h
          refine mm_Runs.seq (l := [(258, .iconst 1, 1), (259, .goto 4, 3)]) (S2 := (263, [some (.ref 84), some (.long v1), none, some (.int ((M.1 84 4) &&& ((mm_shl (1 : Int32) (M.1 84 39)) - (1 : Int32)))), some (.int (1 : Int32)), none, none, none, none], [.int (1 : Int32)], M29)) (by decide +kernel) (hO := mm_own_238) rfl ?_
          exact (ms_238_j263 hd h hA : mp_238_263 L xs (d + 1) v1 ((M.1 84 4) &&& ((mm_shl (1 : Int32) (M.1 84 39)) - (1 : Int32))) (1 : Int32) M29 o) none (some (.int (1 : Int32))) none none none none
        · replace h := mm_iq hc h
          refine mm_Runs.seq (l := [(262, .iconst 0, 1)]) (S2 := (263, [some (.ref 84), some (.long v1), none, some (.int ((M.1 84 4) &&& ((mm_shl (1 : Int32) (M.1 84 39)) - (1 : Int32)))), some (.int (1 : Int32)), none, none, none, none], [.int (0 : Int32)], M29)) (by decide +kernel) (hO := mm_own_238) rfl ?_
          exact (ms_238_j263 hd h hA : mp_238_263 L xs (d + 1) v1 ((M.1 84 4) &&& ((mm_shl (1 : Int32) (M.1 84 39)) - (1 : Int32))) (0 : Int32) M29 o) none (some (.int (1 : Int32))) none none none none
      · replace h := mm_iq hc h
        refine mm_Runs.seq (l := [(331, .aload_n 0, 1), (332, .sipush 408, 3), (335, .aload_n 0, 1), (336, .getfield 349, 3), (339, .iadd, 1)]) (S2 := (340, [some (.ref 84), some (.long v1), none, some (.int ((M.1 84 4) &&& ((mm_shl (1 : Int32) (M.1 84 39)) - (1 : Int32)))), some (.int (1 : Int32)), none, none, none, none], [.int ((408 : Int32) + (M26.1 84 35)), .ref 84], M26)) (by decide +kernel) (hO := mm_own_238) rfl ?_
        refine mm_R_call (v := mm_wi) h hA (k2 := 233) (as := [.ref 84, .int ((408 : Int32) + (M26.1 84 35))]) (r := []) rfl (fun _ => rfl) (fun q hq o ho => ms_233 (by omega) hq ho) (fun r30 M31 h => ?_)
        show mm_Runs L xs (d + 1) 238 (343, [some (.ref 84), some (.long v1), none, some (.int ((M.1 84 4) &&& ((mm_shl (1 : Int32) (M.1 84 39)) - (1 : Int32)))), some (.int (1 : Int32)), none, none, none, none], [.int r30], M31) o
        refine mm_R_zne (t := 350) rfl rfl rfl (fun hc => ?_) (fun hc => ?_)
        · replace h := mm_ip hc h
          refine mm_Runs.seq (l := [(346, .iconst 1, 1), (347, .goto 17, 3)]) (S2 := (364, [some (.ref 84), some (.long v1), none, some (.int ((M.1 84 4) &&& ((mm_shl (1 : Int32) (M.1 84 39)) - (1 : Int32)))), some (.int (1 : Int32)), none, none, none, none], [.int (1 : Int32)], M31)) (by decide +kernel) (hO := mm_own_238) rfl ?_
          exact (ms_238_j364 hd h hA : mp_238_364 L xs (d + 1) v1 ((M.1 84 4) &&& ((mm_shl (1 : Int32) (M.1 84 39)) - (1 : Int32))) (1 : Int32) M31 o) none (some (.int (1 : Int32))) none none none none
        · replace h := mm_iq hc h
          refine mm_Runs.seq (l := [(350, .iconst 2, 1), (351, .aload_n 0, 1), (352, .sipush 420, 3), (355, .aload_n 0, 1), (356, .getfield 349, 3), (359, .iadd, 1)]) (S2 := (360, [some (.ref 84), some (.long v1), none, some (.int ((M.1 84 4) &&& ((mm_shl (1 : Int32) (M.1 84 39)) - (1 : Int32)))), some (.int (1 : Int32)), none, none, none, none], [.int ((420 : Int32) + (M31.1 84 35)), .ref 84, .int (2 : Int32)], M31)) (by decide +kernel) (hO := mm_own_238) rfl ?_
          refine mm_R_call (v := mm_wi) h hA (k2 := 233) (as := [.ref 84, .int ((420 : Int32) + (M31.1 84 35))]) (r := [.int (2 : Int32)]) rfl (fun _ => rfl) (fun q hq o ho => ms_233 (by omega) hq ho) (fun r32 M33 h => ?_)
          show mm_Runs L xs (d + 1) 238 (363, [some (.ref 84), some (.long v1), none, some (.int ((M.1 84 4) &&& ((mm_shl (1 : Int32) (M.1 84 39)) - (1 : Int32)))), some (.int (1 : Int32)), none, none, none, none], [.int r32, .int (2 : Int32)], M33) o
          refine mm_Runs.seq (l := [(363, .iadd, 1)]) (S2 := (364, [some (.ref 84), some (.long v1), none, some (.int ((M.1 84 4) &&& ((mm_shl (1 : Int32) (M.1 84 39)) - (1 : Int32)))), some (.int (1 : Int32)), none, none, none, none], [.int ((2 : Int32) + r32)], M33)) (by decide +kernel) (hO := mm_own_238) rfl ?_
          exact (ms_238_j364 hd h hA : mp_238_364 L xs (d + 1) v1 ((M.1 84 4) &&& ((mm_shl (1 : Int32) (M.1 84 39)) - (1 : Int32))) ((2 : Int32) + r32) M33 o) none (some (.int (1 : Int32))) none none none none
