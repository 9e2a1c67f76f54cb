/-! MEANINGS ARE SOUND 18 -/
-- 186: PlainPacksModel.word([II)I (depth 0)
theorem mm_own_186 : mm_own 186 = 12 := rfl
set_option maxRecDepth 8000 in
set_option maxHeartbeats 4000000 in
theorem ms_186 {L : Nat} {xs : Nat → Int32} {p : Nat} {n : Nat} {d : Nat} (ha : mm_aat 0 p = some n) (hd : 0 ≤ d) {v1 : Int32} {M : mm_M} {q : (Int32 ⊕ Nat) × mm_M} {o : mm_E} (h : mf_186 p n v1 M = some q) (hA : mm_A (mm_Kr mm_wi) q o) : mm_Runs L xs d 186 (0, mm_ent (mm_ml 186) [.ref p, .int v1], [], M) o := by
  unfold mf_186 at h
  show mm_Runs L xs (d) 186 (0, [some (.ref p), some (.int v1)], [], M) o
  refine mm_Runs.seq (l := [(0, .aload_n 0, 1), (1, .iload_n 1, 1)]) (S2 := (2, [some (.ref p), some (.int v1)], [.int v1, .ref p], M)) (by decide +kernel) (hO := mm_own_186) rfl ?_
  obtain ⟨hb, h⟩ := mm_gd h
  refine mm_R_iald rfl ha hb ?_
  refine mm_Runs.seq (l := [(3, .aload_n 0, 1), (4, .iload_n 1, 1), (5, .iconst 1, 1), (6, .iadd, 1)]) (S2 := (7, [some (.ref p), some (.int v1)], [.int (v1 + (1 : Int32)), .ref p, .int (M.1 p v1.toNatClampNeg)], M)) (by decide +kernel) (hO := mm_own_186) rfl ?_
  obtain ⟨hb, h⟩ := mm_gd h
  refine mm_R_iald rfl ha hb ?_
  refine mm_Runs.seq (l := [(8, .bipush 8, 2), (10, .ishl, 1), (11, .ior, 1), (12, .aload_n 0, 1), (13, .iload_n 1, 1), (14, .iconst 2, 1), (15, .iadd, 1)]) (S2 := (16, [some (.ref p), some (.int v1)], [.int (v1 + (2 : Int32)), .ref p, .int ((M.1 p v1.toNatClampNeg) ||| (mm_shl (M.1 p (v1 + (1 : Int32)).toNatClampNeg) (8 : Int32)))], M)) (by decide +kernel) (hO := mm_own_186) rfl ?_
  obtain ⟨hb, h⟩ := mm_gd h
  refine mm_R_iald rfl ha hb ?_
  refine mm_Runs.seq (l := [(17, .bipush 16, 2), (19, .ishl, 1), (20, .ior, 1), (21, .aload_n 0, 1), (22, .iload_n 1, 1), (23, .iconst 3, 1), (24, .iadd, 1)]) (S2 := (25, [some (.ref p), some (.int v1)], [.int (v1 + (3 : Int32)), .ref p, .int (((M.1 p v1.toNatClampNeg) ||| (mm_shl (M.1 p (v1 + (1 : Int32)).toNatClampNeg) (8 : Int32))) ||| (mm_shl (M.1 p (v1 + (2 : Int32)).toNatClampNeg) (16 : Int32)))], M)) (by decide +kernel) (hO := mm_own_186) rfl ?_
  obtain ⟨hb, h⟩ := mm_gd h
  refine mm_R_iald rfl ha hb ?_
  refine mm_Runs.seq (l := [(26, .bipush 24, 2), (28, .ishl, 1), (29, .ior, 1)]) (S2 := (30, [some (.ref p), some (.int v1)], [.int ((((M.1 p v1.toNatClampNeg) ||| (mm_shl (M.1 p (v1 + (1 : Int32)).toNatClampNeg) (8 : Int32))) ||| (mm_shl (M.1 p (v1 + (2 : Int32)).toNatClampNeg) (16 : Int32))) ||| (mm_shl (M.1 p (v1 + (3 : Int32)).toNatClampNeg) (24 : Int32)))], M)) (by decide +kernel) (hO := mm_own_186) rfl ?_
  cases h
  exact mm_R_reti rfl rfl hA
-- 185: PlainPacksModel.left(II)I (depth 0)
theorem mm_own_185 : mm_own 185 = 12 := rfl
set_option maxRecDepth 8000 in
set_option maxHeartbeats 4000000 in
theorem ms_185 {L : Nat} {xs : Nat → Int32} {d : Nat} (hd : 0 ≤ d) {v0 : Int32} {v1 : Int32} {M : mm_M} {q : (Int32 ⊕ Nat) × mm_M} {o : mm_E} (h : mf_185 v0 v1 M = some q) (hA : mm_A (mm_Kr mm_wi) q o) : mm_Runs L xs d 185 (0, mm_ent (mm_ml 185) [.int v0, .int v1], [], M) o := by
  unfold mf_185 at h
  show mm_Runs L xs (d) 185 (0, [some (.int v0), some (.int v1)], [], M) o
  refine mm_Runs.seq (l := [(0, .iload_n 0, 1), (1, .iload_n 1, 1), (2, .ishl, 1), (3, .iload_n 0, 1), (4, .bipush 32, 2), (6, .iload_n 1, 1), (7, .isub, 1), (8, .iushr, 1), (9, .ior, 1)]) (S2 := (10, [some (.int v0), some (.int v1)], [.int ((mm_shl v0 v1) ||| (mm_ush v0 ((32 : Int32) - v1)))], M)) (by decide +kernel) (hO := mm_own_185) rfl ?_
  cases h
  exact mm_R_reti rfl rfl hA
-- 187: PlainPacksModel.lane(II)I (depth 1)
theorem mm_own_187 : mm_own 187 = 12 := rfl
set_option maxRecDepth 8000 in
set_option maxHeartbeats 4000000 in
theorem ms_187 {L : Nat} {xs : Nat → Int32} {d : Nat} (hd : 1 ≤ d) {v0 : Int32} {v1 : Int32} {M : mm_M} {q : (Int32 ⊕ Nat) × mm_M} {o : mm_E} (h : mf_187 v0 v1 M = some q) (hA : mm_A (mm_Kr mm_wi) q o) : mm_Runs L xs d 187 (0, mm_ent (mm_ml 187) [.int v0, .int v1], [], M) o := by
  unfold mf_187 at h
  obtain ⟨d, rfl⟩ := mm_d1 (n := 0) hd
  show mm_Runs L xs (d + 1) 187 (0, [some (.int v0), some (.int v1)], [], M) o
  refine mm_Runs.seq (l := [(0, .iload_n 0, 1), (1, .iload_n 1, 1), (2, .ldc 123, 2), (4, .imul, 1), (5, .iadd, 1), (6, .bipush 13, 2)]) (S2 := (8, [some (.int v0), some (.int v1)], [.int (13 : Int32), .int (v0 + (v1 * (-2048144777 : Int32)))], M)) (by decide +kernel) (hO := mm_own_187) rfl ?_
  refine mm_R_call (v := mm_wi) h hA (k2 := 185) (as := [.int (v0 + (v1 * (-2048144777 : Int32))), .int (13 : Int32)]) (r := []) rfl (fun _ => rfl) (fun q hq o ho => ms_185 (by omega) hq ho) (fun r1 M2 h => ?_)
  show mm_Runs L xs (d + 1) 187 (11, [some (.int v0), some (.int v1)], [.int r1], M2) o
  refine mm_Runs.seq (l := [(11, .ldc 128, 2), (13, .imul, 1)]) (S2 := (14, [some (.int v0), some (.int v1)], [.int (r1 * (-1640531535 : Int32))], M2)) (by decide +kernel) (hO := mm_own_187) rfl ?_
  cases h
  exact mm_R_reti rfl rfl hA
-- 188: PlainPacksModel.xx([III)I (depth 2)
theorem mm_own_188 : mm_own 188 = 12 := rfl
def mp_188_145 (L : Nat) (xs : Nat → Int32) (p : Nat) (n : Nat) (d : Nat) (v2 : Int32) (v4 : Int32) (v5 : Int32) (M : mm_M) (o : mm_E) : Prop := ∀ z1 z3 z6 z7 z8 z9 : Option Value, mm_Runs L xs d 188 (145, [some (.ref p), z1, some (.int v2), z3, some (.int v4), some (.int v5), z6, z7, z8, z9], [], M) o
def mp_188_181 (L : Nat) (xs : Nat → Int32) (p : Nat) (n : Nat) (d : Nat) (v2 : Int32) (v4 : Int32) (v5 : Int32) (M : mm_M) (o : mm_E) : Prop := ∀ z1 z3 z6 z7 z8 z9 : Option Value, mm_Runs L xs d 188 (181, [some (.ref p), z1, some (.int v2), z3, some (.int v4), some (.int v5), z6, z7, z8, z9], [], M) o
set_option maxRecDepth 8000 in
set_option maxHeartbeats 4000000 in
theorem ms_188_b145 {L : Nat} {xs : Nat → Int32} {p : Nat} {n : Nat} {d : Nat} (ha : mm_aat 0 p = some n) (hd : 2 ≤ d) {v2 : Int32} {v4 : Int32} {v5 : Int32} {M : mm_M} {q : (((Int32 × Int32) ⊕ (Int32 × Int32)) ⊕ Nat) × mm_M} {o : mm_E} (h : mf_188_b145 p n v2 v4 v5 M = some q) (hA : mm_A (mm_K2 (fun s M o => mp_188_145 L xs p n (d) v2 s.1 s.2 M o) (fun r M o => mp_188_181 L xs p n (d) v2 r.1 r.2 M o)) q o) : mp_188_145 L xs p n d v2 v4 v5 M o := by
  unfold mf_188_b145 at h
  obtain ⟨d, rfl⟩ := mm_d1 (n := 1) hd
  intro z1 z3 z6 z7 z8 z9
  show mm_Runs L xs (d + 1) 188 (145, [some (.ref p), z1, some (.int v2), z3, some (.int v4), some (.int v5), z6, z7, z8, z9], [], M) o
  refine mm_Runs.seq (l := [(145, .iload_n 2, 1), (146, .iload 4, 2), (148, .isub, 1), (149, .iconst 4, 1)]) (S2 := (150, [some (.ref p), z1, some (.int v2), z3, some (.int v4), some (.int v5), z6, z7, z8, z9], [.int (4 : Int32), .int (v2 - v4)], M)) (by decide +kernel) (hO := mm_own_188) rfl ?_
  refine mm_R_ilt (t := 181) rfl rfl rfl (fun hc => ?_) (fun hc => ?_)
  · replace h := mm_ip hc h
    cases h
    exact (show mp_188_181 L xs p n (d + 1) v2 v4 v5 M o from hA) z1 z3 z6 z7 z8 z9
  · replace h := mm_iq hc h
    refine mm_Runs.seq (l := [(153, .iload 5, 2), (155, .aload_n 0, 1), (156, .iload 4, 2)]) (S2 := (158, [some (.ref p), z1, some (.int v2), z3, some (.int v4), some (.int v5), z6, z7, z8, z9], [.int v4, .ref p, .int v5], M)) (by decide +kernel) (hO := mm_own_188) rfl ?_
    refine mm_R_call (v := mm_wi) h hA (k2 := 186) (as := [.ref p, .int v4]) (r := [.int v5]) rfl (fun _ => rfl) (fun q hq o ho => ms_186 ha (by omega) hq ho) (fun r1 M2 h => ?_)
    show mm_Runs L xs (d + 1) 188 (161, [some (.ref p), z1, some (.int v2), z3, some (.int v4), some (.int v5), z6, z7, z8, z9], [.int r1, .int v5], M2) o
    refine mm_Runs.seq (l := [(161, .ldc 139, 2), (163, .imul, 1), (164, .iadd, 1), (165, .bipush 17, 2)]) (S2 := (167, [some (.ref p), z1, some (.int v2), z3, some (.int v4), some (.int v5), z6, z7, z8, z9], [.int (17 : Int32), .int (v5 + (r1 * (-1028477379 : Int32)))], M2)) (by decide +kernel) (hO := mm_own_188) rfl ?_
    refine mm_R_call (v := mm_wi) h hA (k2 := 185) (as := [.int (v5 + (r1 * (-1028477379 : Int32))), .int (17 : Int32)]) (r := []) rfl (fun _ => rfl) (fun q hq o ho => ms_185 (by omega) hq ho) (fun r3 M4 h => ?_)
    show mm_Runs L xs (d + 1) 188 (170, [some (.ref p), z1, some (.int v2), z3, some (.int v4), some (.int v5), z6, z7, z8, z9], [.int r3], M4) o
    refine mm_Runs.seq (l := [(170, .ldc 140, 2), (172, .imul, 1), (173, .istore 5, 2), (175, .iinc 4 4, 3), (178, .goto (-33), 3)]) (S2 := (145, [some (.ref p), z1, some (.int v2), (mm_no2 z3), some (.int (v4 + (4 : Int32))), some (.int (r3 * (668265263 : Int32))), z6, z7, z8, z9], [], M4)) (by decide +kernel) (hO := mm_own_188) rfl ?_
    cases h
    exact (show mp_188_145 L xs p n (d + 1) v2 (v4 + (4 : Int32)) (r3 * (668265263 : Int32)) M4 o from hA) z1 ((mm_no2 z3)) z6 z7 z8 z9
theorem ms_188_L145 {L : Nat} {xs : Nat → Int32} {p : Nat} {n : Nat} {d : Nat} (ha : mm_aat 0 p = some n) (hd : 2 ≤ d) {v2 : Int32} {v4 : Int32} {v5 : Int32} {β : Type} {K : β → mm_M → mm_E → Prop} {F : (Int32 × Int32) → mm_M → mm_O β} {M : mm_M} {q : (β ⊕ Nat) × mm_M} {o : mm_E} (h : mm_B (mf_188_L145 p n v2 (v4, v5) M) F = some q) (hA : mm_A K q o) (hx : ∀ (r : (Int32 × Int32)) (M2 : mm_M), F r M2 = some q → (fun r M o => mp_188_181 L xs p n (d) v2 r.1 r.2 M o) r M2 o) : mp_188_145 L xs p n d v2 v4 v5 M o := by
  unfold mf_188_L145 at h
  exact mm_R_loop (step := (fun s M => mf_188_b145 p n v2 s.1 s.2 M)) (s := (v4, v5)) (M := M) (P := (fun s M o => mp_188_145 L xs p n (d) v2 s.1 s.2 M o)) (X := (fun r M o => mp_188_181 L xs p n (d) v2 r.1 r.2 M o)) h hA (fun s M q hq hA => ms_188_b145 ha (v2 := v2) (v4 := s.1) (v5 := s.2) (M := M) (q := q) hd hq hA) hx
def mp_188_213 (L : Nat) (xs : Nat → Int32) (p : Nat) (n : Nat) (d : Nat) (v5 : Int32) (M : mm_M) (o : mm_E) : Prop := ∀ z0 z1 z2 z3 z4 z6 z7 z8 z9 : Option Value, mm_Runs L xs d 188 (213, [z0, z1, z2, z3, z4, some (.int v5), z6, z7, z8, z9], [], M) o
set_option maxRecDepth 8000 in
set_option maxHeartbeats 4000000 in
theorem ms_188_b181 {L : Nat} {xs : Nat → Int32} {p : Nat} {n : Nat} {d : Nat} (ha : mm_aat 0 p = some n) (hd : 2 ≤ d) {v2 : Int32} {v4 : Int32} {v5 : Int32} {M : mm_M} {q : (((Int32 × Int32) ⊕ (Int32)) ⊕ Nat) × mm_M} {o : mm_E} (h : mf_188_b181 p n v2 v4 v5 M = some q) (hA : mm_A (mm_K2 (fun s M o => mp_188_181 L xs p n (d) v2 s.1 s.2 M o) (fun r M o => mp_188_213 L xs p n (d) r M o)) q o) : mp_188_181 L xs p n d v2 v4 v5 M o := by
  unfold mf_188_b181 at h
  obtain ⟨d, rfl⟩ := mm_d1 (n := 1) hd
  intro z1 z3 z6 z7 z8 z9
  show mm_Runs L xs (d + 1) 188 (181, [some (.ref p), z1, some (.int v2), z3, some (.int v4), some (.int v5), z6, z7, z8, z9], [], M) o
  refine mm_Runs.seq (l := [(181, .iload 4, 2), (183, .iload_n 2, 1)]) (S2 := (184, [some (.ref p), z1, some (.int v2), z3, some (.int v4), some (.int v5), z6, z7, z8, z9], [.int v2, .int v4], M)) (by decide +kernel) (hO := mm_own_188) rfl ?_
  refine mm_R_ige (t := 213) rfl rfl rfl (fun hc => ?_) (fun hc => ?_)
  · replace h := mm_ip hc h
    refine mm_Runs.seq (l := [(187, .iload 5, 2), (189, .aload_n 0, 1), (190, .iload 4, 2)]) (S2 := (192, [some (.ref p), z1, some (.int v2), z3, some (.int v4), some (.int v5), z6, z7, z8, z9], [.int v4, .ref p, .int v5], M)) (by decide +kernel) (hO := mm_own_188) rfl ?_
    obtain ⟨hb, h⟩ := mm_gd h
    refine mm_R_iald rfl ha hb ?_
    refine mm_Runs.seq (l := [(193, .ldc 129, 2), (195, .imul, 1), (196, .iadd, 1), (197, .bipush 11, 2)]) (S2 := (199, [some (.ref p), z1, some (.int v2), z3, some (.int v4), some (.int v5), z6, z7, z8, z9], [.int (11 : Int32), .int (v5 + ((M.1 p v4.toNatClampNeg) * (374761393 : Int32)))], M)) (by decide +kernel) (hO := mm_own_188) rfl ?_
    refine mm_R_call (v := mm_wi) h hA (k2 := 185) (as := [.int (v5 + ((M.1 p v4.toNatClampNeg) * (374761393 : Int32))), .int (11 : Int32)]) (r := []) rfl (fun _ => rfl) (fun q hq o ho => ms_185 (by omega) hq ho) (fun r1 M2 h => ?_)
    show mm_Runs L xs (d + 1) 188 (202, [some (.ref p), z1, some (.int v2), z3, some (.int v4), some (.int v5), z6, z7, z8, z9], [.int r1], M2) o
    refine mm_Runs.seq (l := [(202, .ldc 128, 2), (204, .imul, 1), (205, .istore 5, 2), (207, .iinc 4 1, 3), (210, .goto (-29), 3)]) (S2 := (181, [some (.ref p), z1, some (.int v2), (mm_no2 z3), some (.int (v4 + (1 : Int32))), some (.int (r1 * (-1640531535 : Int32))), z6, z7, z8, z9], [], M2)) (by decide +kernel) (hO := mm_own_188) rfl ?_
    cases h
    exact (show mp_188_181 L xs p n (d + 1) v2 (v4 + (1 : Int32)) (r1 * (-1640531535 : Int32)) M2 o from hA) z1 ((mm_no2 z3)) z6 z7 z8 z9
  · replace h := mm_iq hc h
    cases h
    exact (show mp_188_213 L xs p n (d + 1) v5 M o from hA) (some (.ref p)) z1 (some (.int v2)) z3 (some (.int v4)) z6 z7 z8 z9
theorem ms_188_L181 {L : Nat} {xs : Nat → Int32} {p : Nat} {n : Nat} {d : Nat} (ha : mm_aat 0 p = some n) (hd : 2 ≤ d) {v2 : Int32} {v4 : Int32} {v5 : Int32} {β : Type} {K : β → mm_M → mm_E → Prop} {F : (Int32) → mm_M → mm_O β} {M : mm_M} {q : (β ⊕ Nat) × mm_M} {o : mm_E} (h : mm_B (mf_188_L181 p n v2 (v4, v5) M) F = some q) (hA : mm_A K q o) (hx : ∀ (r : (Int32)) (M2 : mm_M), F r M2 = some q → (fun r M o => mp_188_213 L xs p n (d) r M o) r M2 o) : mp_188_181 L xs p n d v2 v4 v5 M o := by
  unfold mf_188_L181 at h
  exact mm_R_loop (step := (fun s M => mf_188_b181 p n v2 s.1 s.2 M)) (s := (v4, v5)) (M := M) (P := (fun s M o => mp_188_181 L xs p n (d) v2 s.1 s.2 M o)) (X := (fun r M o => mp_188_213 L xs p n (d) r M o)) h hA (fun s M q hq hA => ms_188_b181 ha (v2 := v2) (v4 := s.1) (v5 := s.2) (M := M) (q := q) hd hq hA) hx
set_option maxRecDepth 8000 in
set_option maxHeartbeats 4000000 in
theorem ms_188_j213 {L : Nat} {xs : Nat → Int32} {p : Nat} {n : Nat} {d : Nat} (ha : mm_aat 0 p = some n) (hd : 2 ≤ d) {v5 : Int32} {M : mm_M} {q : (Int32 ⊕ Nat) × mm_M} {o : mm_E} (h : mf_188_j213 p n v5 M = some q) (hA : mm_A (mm_Kr mm_wi) q o) : mp_188_213 L xs p n d v5 M o := by
  unfold mf_188_j213 at h
  obtain ⟨d, rfl⟩ := mm_d1 (n := 1) hd
  intro z0 z1 z2 z3 z4 z6 z7 z8 z9
  show mm_Runs L xs (d + 1) 188 (213, [z0, z1, z2, z3, z4, some (.int v5), z6, z7, z8, z9], [], M) o
  refine mm_Runs.seq (l := [(213, .iload 5, 2), (215, .iload 5, 2), (217, .bipush 15, 2), (219, .iushr, 1), (220, .ixor, 1), (221, .ldc 123, 2), (223, .imul, 1), (224, .istore 5, 2), (226, .iload 5, 2), (228, .iload 5, 2), (230, .bipush 13, 2), (232, .iushr, 1), (233, .ixor, 1), (234, .ldc 139, 2), (236, .imul, 1), (237, .istore 5, 2), (239, .iload 5, 2), (241, .iload 5, 2), (243, .bipush 16, 2), (245, .iushr, 1), (246, .ixor, 1)]) (S2 := (247, [z0, z1, z2, z3, (mm_no2 (mm_no2 z4)), some (.int ((((v5 ^^^ (mm_ush v5 (15 : Int32))) * (-2048144777 : Int32)) ^^^ (mm_ush ((v5 ^^^ (mm_ush v5 (15 : Int32))) * (-2048144777 : Int32)) (13 : Int32))) * (-1028477379 : Int32))), z6, z7, z8, z9], [.int (((((v5 ^^^ (mm_ush v5 (15 : Int32))) * (-2048144777 : Int32)) ^^^ (mm_ush ((v5 ^^^ (mm_ush v5 (15 : Int32))) * (-2048144777 : Int32)) (13 : Int32))) * (-1028477379 : Int32)) ^^^ (mm_ush ((((v5 ^^^ (mm_ush v5 (15 : Int32))) * (-2048144777 : Int32)) ^^^ (mm_ush ((v5 ^^^ (mm_ush v5 (15 : Int32))) * (-2048144777 : Int32)) (13 : Int32))) * (-1028477379 : Int32)) (16 : Int32)))], M)) (by decide +kernel) (hO := mm_own_188) rfl ?_
  cases h
  exact mm_R_reti rfl rfl hA
def mp_188_32 (L : Nat) (xs : Nat → Int32) (p : Nat) (n : Nat) (d : Nat) (v2 : Int32) (v3 : Int32) (v4 : Int32) (v6 : Int32) (v7 : Int32) (v8 : Int32) (v9 : Int32) (M : mm_M) (o : mm_E) : Prop := ∀ z1 z5 : Option Value, mm_Runs L xs d 188 (32, [some (.ref p), z1, some (.int v2), some (.int v3), some (.int v4), z5, some (.int v6), some (.int v7), some (.int v8), some (.int v9)], [], M) o
def mp_188_107 (L : Nat) (xs : Nat → Int32) (p : Nat) (n : Nat) (d : Nat) (v2 : Int32) (v3 : Int32) (v4 : Int32) (v6 : Int32) (v7 : Int32) (v8 : Int32) (v9 : Int32) (M : mm_M) (o : mm_E) : Prop := ∀ z1 z5 : Option Value, mm_Runs L xs d 188 (107, [some (.ref p), z1, some (.int v2), some (.int v3), some (.int v4), z5, some (.int v6), some (.int v7), some (.int v8), some (.int v9)], [], M) o
set_option maxRecDepth 8000 in
set_option maxHeartbeats 4000000 in
theorem ms_188_b32 {L : Nat} {xs : Nat → Int32} {p : Nat} {n : Nat} {d : Nat} (ha : mm_aat 0 p = some n) (hd : 2 ≤ d) {v2 : Int32} {v3 : Int32} {v4 : Int32} {v6 : Int32} {v7 : Int32} {v8 : Int32} {v9 : Int32} {M : mm_M} {q : (((Int32 × Int32 × Int32 × Int32 × Int32) ⊕ (Int32 × Int32 × Int32 × Int32 × Int32)) ⊕ Nat) × mm_M} {o : mm_E} (h : mf_188_b32 p n v2 v3 v4 v6 v7 v8 v9 M = some q) (hA : mm_A (mm_K2 (fun s M o => mp_188_32 L xs p n (d) v2 v3 s.1 s.2.1 s.2.2.1 s.2.2.2.1 s.2.2.2.2 M o) (fun r M o => mp_188_107 L xs p n (d) v2 v3 r.1 r.2.1 r.2.2.1 r.2.2.2.1 r.2.2.2.2 M o)) q o) : mp_188_32 L xs p n d v2 v3 v4 v6 v7 v8 v9 M o := by
  unfold mf_188_b32 at h
  obtain ⟨d, rfl⟩ := mm_d1 (n := 1) hd
  intro z1 z5
  show mm_Runs L xs (d + 1) 188 (32, [some (.ref p), z1, some (.int v2), some (.int v3), some (.int v4), z5, some (.int v6), some (.int v7), some (.int v8), some (.int v9)], [], M) o
  refine mm_Runs.seq (l := [(32, .iload_n 2, 1), (33, .iload 4, 2), (35, .isub, 1), (36, .bipush 16, 2)]) (S2 := (38, [some (.ref p), z1, some (.int v2), some (.int v3), some (.int v4), z5, some (.int v6), some (.int v7), some (.int v8), some (.int v9)], [.int (16 : Int32), .int (v2 - v4)], M)) (by decide +kernel) (hO := mm_own_188) rfl ?_
  refine mm_R_ilt (t := 107) rfl rfl rfl (fun hc => ?_) (fun hc => ?_)
  · replace h := mm_ip hc h
    cases h
    exact (show mp_188_107 L xs p n (d + 1) v2 v3 v4 v6 v7 v8 v9 M o from hA) z1 z5
  · replace h := mm_iq hc h
    refine mm_Runs.seq (l := [(41, .iload 6, 2), (43, .aload_n 0, 1), (44, .iload 4, 2)]) (S2 := (46, [some (.ref p), z1, some (.int v2), some (.int v3), some (.int v4), z5, some (.int v6), some (.int v7), some (.int v8), some (.int v9)], [.int v4, .ref p, .int v6], M)) (by decide +kernel) (hO := mm_own_188) rfl ?_
    refine mm_R_call (v := mm_wi) h hA (k2 := 186) (as := [.ref p, .int v4]) (r := [.int v6]) rfl (fun _ => rfl) (fun q hq o ho => ms_186 ha (by omega) hq ho) (fun r1 M2 h => ?_)
    show mm_Runs L xs (d + 1) 188 (49, [some (.ref p), z1, some (.int v2), some (.int v3), some (.int v4), z5, some (.int v6), some (.int v7), some (.int v8), some (.int v9)], [.int r1, .int v6], M2) o
    refine mm_R_call (v := mm_wi) h hA (k2 := 187) (as := [.int v6, .int r1]) (r := []) rfl (fun _ => rfl) (fun q hq o ho => ms_187 (by omega) hq ho) (fun r3 M4 h => ?_)
    show mm_Runs L xs (d + 1) 188 (52, [some (.ref p), z1, some (.int v2), some (.int v3), some (.int v4), z5, some (.int v6), some (.int v7), some (.int v8), some (.int v9)], [.int r3], M4) o
    refine mm_Runs.seq (l := [(52, .istore 6, 2), (54, .iload 7, 2), (56, .aload_n 0, 1), (57, .iload 4, 2), (59, .iconst 4, 1), (60, .iadd, 1)]) (S2 := (61, [some (.ref p), z1, some (.int v2), some (.int v3), some (.int v4), (mm_no2 z5), some (.int r3), some (.int v7), some (.int v8), some (.int v9)], [.int (v4 + (4 : Int32)), .ref p, .int v7], M4)) (by decide +kernel) (hO := mm_own_188) rfl ?_
    refine mm_R_call (v := mm_wi) h hA (k2 := 186) (as := [.ref p, .int (v4 + (4 : Int32))]) (r := [.int v7]) rfl (fun _ => rfl) (fun q hq o ho => ms_186 ha (by omega) hq ho) (fun r5 M6 h => ?_)
    show mm_Runs L xs (d + 1) 188 (64, [some (.ref p), z1, some (.int v2), some (.int v3), some (.int v4), (mm_no2 z5), some (.int r3), some (.int v7), some (.int v8), some (.int v9)], [.int r5, .int v7], M6) o
    refine mm_R_call (v := mm_wi) h hA (k2 := 187) (as := [.int v7, .int r5]) (r := []) rfl (fun _ => rfl) (fun q hq o ho => ms_187 (by omega) hq ho) (fun r7 M8 h => ?_)
    show mm_Runs L xs (d + 1) 188 (67, [some (.ref p), z1, some (.int v2), some (.int v3), some (.int v4), (mm_no2 z5), some (.int r3), some (.int v7), some (.int v8), some (.int v9)], [.int r7], M8) o
    refine mm_Runs.seq (l := [(67, .istore 7, 2), (69, .iload 8, 2), (71, .aload_n 0, 1), (72, .iload 4, 2), (74, .bipush 8, 2), (76, .iadd, 1)]) (S2 := (77, [some (.ref p), z1, some (.int v2), some (.int v3), some (.int v4), (mm_no2 z5), some (.int r3), some (.int r7), some (.int v8), some (.int v9)], [.int (v4 + (8 : Int32)), .ref p, .int v8], M8)) (by decide +kernel) (hO := mm_own_188) rfl ?_
    refine mm_R_call (v := mm_wi) h hA (k2 := 186) (as := [.ref p, .int (v4 + (8 : Int32))]) (r := [.int v8]) rfl (fun _ => rfl) (fun q hq o ho => ms_186 ha (by omega) hq ho) (fun r9 M10 h => ?_)
    show mm_Runs L xs (d + 1) 188 (80, [some (.ref p), z1, some (.int v2), some (.int v3), some (.int v4), (mm_no2 z5), some (.int r3), some (.int r7), some (.int v8), some (.int v9)], [.int r9, .int v8], M10) o
    refine mm_R_call (v := mm_wi) h hA (k2 := 187) (as := [.int v8, .int r9]) (r := []) rfl (fun _ => rfl) (fun q hq o ho => ms_187 (by omega) hq ho) (fun r11 M12 h => ?_)
    show mm_Runs L xs (d + 1) 188 (83, [some (.ref p), z1, some (.int v2), some (.int v3), some (.int v4), (mm_no2 z5), some (.int r3), some (.int r7), some (.int v8), some (.int v9)], [.int r11], M12) o
    refine mm_Runs.seq (l := [(83, .istore 8, 2), (85, .iload 9, 2), (87, .aload_n 0, 1), (88, .iload 4, 2), (90, .bipush 12, 2), (92, .iadd, 1)]) (S2 := (93, [some (.ref p), z1, some (.int v2), some (.int v3), some (.int v4), (mm_no2 z5), some (.int r3), some (.int r7), some (.int r11), some (.int v9)], [.int (v4 + (12 : Int32)), .ref p, .int v9], M12)) (by decide +kernel) (hO := mm_own_188) rfl ?_
    refine mm_R_call (v := mm_wi) h hA (k2 := 186) (as := [.ref p, .int (v4 + (12 : Int32))]) (r := [.int v9]) rfl (fun _ => rfl) (fun q hq o ho => ms_186 ha (by omega) hq ho) (fun r13 M14 h => ?_)
    show mm_Runs L xs (d + 1) 188 (96, [some (.ref p), z1, some (.int v2), some (.int v3), some (.int v4), (mm_no2 z5), some (.int r3), some (.int r7), some (.int r11), some (.int v9)], [.int r13, .int v9], M14) o
    refine mm_R_call (v := mm_wi) h hA (k2 := 187) (as := [.int v9, .int r13]) (r := []) rfl (fun _ => rfl) (fun q hq o ho => ms_187 (by omega) hq ho) (fun r15 M16 h => ?_)
    show mm_Runs L xs (d + 1) 188 (99, [some (.ref p), z1, some (.int v2), some (.int v3), some (.int v4), (mm_no2 z5), some (.int r3), some (.int r7), some (.int r11), some (.int v9)], [.int r15], M16) o
    refine mm_Runs.seq (l := [(99, .istore 9, 2), (101, .iinc 4 16, 3), (104, .goto (-72), 3)]) (S2 := (32, [some (.ref p), z1, some (.int v2), some (.int v3), some (.int (v4 + (16 : Int32))), (mm_no2 z5), some (.int r3), some (.int r7), some (.int r11), some (.int r15)], [], M16)) (by decide +kernel) (hO := mm_own_188) rfl ?_
    cases h
    exact (show mp_188_32 L xs p n (d + 1) v2 v3 (v4 + (16 : Int32)) r3 r7 r11 r15 M16 o from hA) z1 ((mm_no2 z5))
theorem ms_188_L32 {L : Nat} {xs : Nat → Int32} {p : Nat} {n : Nat} {d : Nat} (ha : mm_aat 0 p = some n) (hd : 2 ≤ d) {v2 : Int32} {v3 : Int32} {v4 : Int32} {v6 : Int32} {v7 : Int32} {v8 : Int32} {v9 : Int32} {β : Type} {K : β → mm_M → mm_E → Prop} {F : (Int32 × Int32 × Int32 × Int32 × Int32) → mm_M → mm_O β} {M : mm_M} {q : (β ⊕ Nat) × mm_M} {o : mm_E} (h : mm_B (mf_188_L32 p n v2 v3 (v4, v6, v7, v8, v9) M) F = some q) (hA : mm_A K q o) (hx : ∀ (r : (Int32 × Int32 × Int32 × Int32 × Int32)) (M2 : mm_M), F r M2 = some q → (fun r M o => mp_188_107 L xs p n (d) v2 v3 r.1 r.2.1 r.2.2.1 r.2.2.2.1 r.2.2.2.2 M o) r M2 o) : mp_188_32 L xs p n d v2 v3 v4 v6 v7 v8 v9 M o := by
  unfold mf_188_L32 at h
  exact mm_R_loop (step := (fun s M => mf_188_b32 p n v2 v3 s.1 s.2.1 s.2.2.1 s.2.2.2.1 s.2.2.2.2 M)) (s := (v4, v6, v7, v8, v9)) (M := M) (P := (fun s M o => mp_188_32 L xs p n (d) v2 v3 s.1 s.2.1 s.2.2.1 s.2.2.2.1 s.2.2.2.2 M o)) (X := (fun r M o => mp_188_107 L xs p n (d) v2 v3 r.1 r.2.1 r.2.2.1 r.2.2.2.1 r.2.2.2.2 M o)) h hA (fun s M q hq hA => ms_188_b32 ha (v2 := v2) (v3 := v3) (v4 := s.1) (v6 := s.2.1) (v7 := s.2.2.1) (v8 := s.2.2.2.1) (v9 := s.2.2.2.2) (M := M) (q := q) hd hq hA) hx
set_option maxRecDepth 8000 in
set_option maxHeartbeats 4000000 in
theorem ms_188_j107 {L : Nat} {xs : Nat → Int32} {p : Nat} {n : Nat} {d : Nat} (ha : mm_aat 0 p = some n) (hd : 2 ≤ d) {v2 : Int32} {v3 : Int32} {v4 : Int32} {v6 : Int32} {v7 : Int32} {v8 : Int32} {v9 : Int32} {M : mm_M} {q : (Int32 ⊕ Nat) × mm_M} {o : mm_E} (h : mf_188_j107 p n v2 v3 v4 v6 v7 v8 v9 M = some q) (hA : mm_A (mm_Kr mm_wi) q o) : mp_188_107 L xs p n d v2 v3 v4 v6 v7 v8 v9 M o := by
  unfold mf_188_j107 at h
  obtain ⟨d, rfl⟩ := mm_d1 (n := 1) hd
  intro z1 z5
  show mm_Runs L xs (d + 1) 188 (107, [some (.ref p), z1, some (.int v2), some (.int v3), some (.int v4), z5, some (.int v6), some (.int v7), some (.int v8), some (.int v9)], [], M) o
  refine mm_Runs.seq (l := [(107, .iload 6, 2), (109, .iconst 1, 1)]) (S2 := (110, [some (.ref p), z1, some (.int v2), some (.int v3), some (.int v4), z5, some (.int v6), some (.int v7), some (.int v8), some (.int v9)], [.int (1 : Int32), .int v6], M)) (by decide +kernel) (hO := mm_own_188) rfl ?_
  refine mm_R_call (v := mm_wi) h hA (k2 := 185) (as := [.int v6, .int (1 : Int32)]) (r := []) rfl (fun _ => rfl) (fun q hq o ho => ms_185 (by omega) hq ho) (fun r1 M2 h => ?_)
  show mm_Runs L xs (d + 1) 188 (113, [some (.ref p), z1, some (.int v2), some (.int v3), some (.int v4), z5, some (.int v6), some (.int v7), some (.int v8), some (.int v9)], [.int r1], M2) o
  refine mm_Runs.seq (l := [(113, .iload 7, 2), (115, .bipush 7, 2)]) (S2 := (117, [some (.ref p), z1, some (.int v2), some (.int v3), some (.int v4), z5, some (.int v6), some (.int v7), some (.int v8), some (.int v9)], [.int (7 : Int32), .int v7, .int r1], M2)) (by decide +kernel) (hO := mm_own_188) rfl ?_
  refine mm_R_call (v := mm_wi) h hA (k2 := 185) (as := [.int v7, .int (7 : Int32)]) (r := [.int r1]) rfl (fun _ => rfl) (fun q hq o ho => ms_185 (by omega) hq ho) (fun r3 M4 h => ?_)
  show mm_Runs L xs (d + 1) 188 (120, [some (.ref p), z1, some (.int v2), some (.int v3), some (.int v4), z5, some (.int v6), some (.int v7), some (.int v8), some (.int v9)], [.int r3, .int r1], M4) o
  refine mm_Runs.seq (l := [(120, .iadd, 1), (121, .iload 8, 2), (123, .bipush 12, 2)]) (S2 := (125, [some (.ref p), z1, some (.int v2), some (.int v3), some (.int v4), z5, some (.int v6), some (.int v7), some (.int v8), some (.int v9)], [.int (12 : Int32), .int v8, .int (r1 + r3)], M4)) (by decide +kernel) (hO := mm_own_188) rfl ?_
  refine mm_R_call (v := mm_wi) h hA (k2 := 185) (as := [.int v8, .int (12 : Int32)]) (r := [.int (r1 + r3)]) rfl (fun _ => rfl) (fun q hq o ho => ms_185 (by omega) hq ho) (fun r5 M6 h => ?_)
  show mm_Runs L xs (d + 1) 188 (128, [some (.ref p), z1, some (.int v2), some (.int v3), some (.int v4), z5, some (.int v6), some (.int v7), some (.int v8), some (.int v9)], [.int r5, .int (r1 + r3)], M6) o
  refine mm_Runs.seq (l := [(128, .iadd, 1), (129, .iload 9, 2), (131, .bipush 18, 2)]) (S2 := (133, [some (.ref p), z1, some (.int v2), some (.int v3), some (.int v4), z5, some (.int v6), some (.int v7), some (.int v8), some (.int v9)], [.int (18 : Int32), .int v9, .int ((r1 + r3) + r5)], M6)) (by decide +kernel) (hO := mm_own_188) rfl ?_
  refine mm_R_call (v := mm_wi) h hA (k2 := 185) (as := [.int v9, .int (18 : Int32)]) (r := [.int ((r1 + r3) + r5)]) rfl (fun _ => rfl) (fun q hq o ho => ms_185 (by omega) hq ho) (fun r7 M8 h => ?_)
  show mm_Runs L xs (d + 1) 188 (136, [some (.ref p), z1, some (.int v2), some (.int v3), some (.int v4), z5, some (.int v6), some (.int v7), some (.int v8), some (.int v9)], [.int r7, .int ((r1 + r3) + r5)], M8) o
  refine mm_Runs.seq (l := [(136, .iadd, 1), (137, .istore 5, 2), (139, .iload 5, 2), (141, .iload_n 3, 1), (142, .iadd, 1), (143, .istore 5, 2)]) (S2 := (145, [some (.ref p), z1, some (.int v2), some (.int v3), some (.int v4), some (.int ((((r1 + r3) + r5) + r7) + v3)), some (.int v6), some (.int v7), some (.int v8), some (.int v9)], [], M8)) (by decide +kernel) (hO := mm_own_188) rfl ?_
  have hp : mp_188_145 L xs p n (d + 1) v2 v4 ((((r1 + r3) + r5) + r7) + v3) M8 o := by
    refine ms_188_L145 ha hd h hA (fun r10 M9 h => ?_)
    intro y11 y12 y13 y14 y15 y16
    show mm_Runs L xs (d + 1) 188 (181, [some (.ref p), y11, some (.int v2), y12, some (.int r10.1), some (.int r10.2), y13, y14, y15, y16], [], M9) o
    have hp : mp_188_181 L xs p n (d + 1) v2 r10.1 r10.2 M9 o := by
      refine ms_188_L181 ha hd h hA (fun r18 M17 h => ?_)
      intro y19 y20 y21 y22 y23 y24 y25 y26 y27
      show mm_Runs L xs (d + 1) 188 (213, [y19, y20, y21, y22, y23, some (.int r18), y24, y25, y26, y27], [], M17) o
      exact (ms_188_j213 ha hd h hA : mp_188_213 L xs p n (d + 1) r18 M17 o) y19 y20 y21 y22 y23 y24 y25 y26 y27
    exact hp y11 y12 y13 y14 y15 y16
  exact hp z1 (some (.int v3)) (some (.int v6)) (some (.int v7)) (some (.int v8)) (some (.int v9))
set_option maxRecDepth 8000 in
set_option maxHeartbeats 4000000 in
theorem ms_188 {L : Nat} {xs : Nat → Int32} {p : Nat} {n : Nat} {d : Nat} (ha : mm_aat 0 p = some n) (hd : 2 ≤ d) {v1 : Int32} {v2 : Int32} {M : mm_M} {q : (Int32 ⊕ Nat) × mm_M} {o : mm_E} (h : mf_188 p n v1 v2 M = some q) (hA : mm_A (mm_Kr mm_wi) q o) : mm_Runs L xs d 188 (0, mm_ent (mm_ml 188) [.ref p, .int v1, .int v2], [], M) o := by
  unfold mf_188 at h
  obtain ⟨d, rfl⟩ := mm_d1 (n := 1) hd
  show mm_Runs L xs (d + 1) 188 (0, [some (.ref p), some (.int v1), some (.int v2), none, none, none, none, none, none, none], [], M) o
  refine mm_Runs.seq (l := [(0, .iload_n 2, 1), (1, .iload_n 1, 1), (2, .isub, 1), (3, .istore_n 3, 1), (4, .iload_n 1, 1), (5, .istore 4, 2), (7, .ldc 129, 2), (9, .istore 5, 2), (11, .iload_n 3, 1), (12, .bipush 16, 2)]) (S2 := (14, [some (.ref p), some (.int v1), some (.int v2), some (.int (v2 - v1)), some (.int v1), some (.int (374761393 : Int32)), none, none, none, none], [.int (16 : Int32), .int (v2 - v1)], M)) (by decide +kernel) (hO := mm_own_188) rfl ?_
  refine mm_R_ilt (t := 139) rfl rfl rfl (fun hc => ?_) (fun hc => ?_)
  · replace h := mm_ip hc h
    refine mm_Runs.seq (l := [(139, .iload 5, 2), (141, .iload_n 3, 1), (142, .iadd, 1), (143, .istore 5, 2)]) (S2 := (145, [some (.ref p), some (.int v1), some (.int v2), some (.int (v2 - v1)), some (.int v1), some (.int ((374761393 : Int32) + (v2 - v1))), none, none, none, none], [], M)) (by decide +kernel) (hO := mm_own_188) rfl ?_
    have hp : mp_188_145 L xs p n (d + 1) v2 v1 ((374761393 : Int32) + (v2 - v1)) M o := by
      refine ms_188_L145 ha hd h hA (fun r2 M1 h => ?_)
      intro y3 y4 y5 y6 y7 y8
      show mm_Runs L xs (d + 1) 188 (181, [some (.ref p), y3, some (.int v2), y4, some (.int r2.1), some (.int r2.2), y5, y6, y7, y8], [], M1) o
      have hp : mp_188_181 L xs p n (d + 1) v2 r2.1 r2.2 M1 o := by
        refine ms_188_L181 ha hd h hA (fun r10 M9 h => ?_)
        intro y11 y12 y13 y14 y15 y16 y17 y18 y19
        show mm_Runs L xs (d + 1) 188 (213, [y11, y12, y13, y14, y15, some (.int r10), y16, y17, y18, y19], [], M9) o
        exact (ms_188_j213 ha hd h hA : mp_188_213 L xs p n (d + 1) r10 M9 o) y11 y12 y13 y14 y15 y16 y17 y18 y19
      exact hp y3 y4 y5 y6 y7 y8
    exact hp (some (.int v1)) (some (.int (v2 - v1))) none none none none
  · replace h := mm_iq hc h
    refine mm_Runs.seq (l := [(17, .ldc 130, 2), (19, .istore 6, 2), (21, .ldc 123, 2), (23, .istore 7, 2), (25, .iconst 0, 1), (26, .istore 8, 2), (28, .ldc 131, 2), (30, .istore 9, 2)]) (S2 := (32, [some (.ref p), some (.int v1), some (.int v2), some (.int (v2 - v1)), some (.int v1), some (.int (374761393 : Int32)), some (.int (606290984 : Int32)), some (.int (-2048144777 : Int32)), some (.int (0 : Int32)), some (.int (1640531535 : Int32))], [], M)) (by decide +kernel) (hO := mm_own_188) rfl ?_
    have hp : mp_188_32 L xs p n (d + 1) v2 (v2 - v1) v1 (606290984 : Int32) (-2048144777 : Int32) (0 : Int32) (1640531535 : Int32) M o := by
      refine ms_188_L32 ha hd h hA (fun r21 M20 h => ?_)
      intro y22 y23
      show mm_Runs L xs (d + 1) 188 (107, [some (.ref p), y22, some (.int v2), some (.int (v2 - v1)), some (.int r21.1), y23, some (.int r21.2.1), some (.int r21.2.2.1), some (.int r21.2.2.2.1), some (.int r21.2.2.2.2)], [], M20) o
      exact (ms_188_j107 ha hd h hA : mp_188_107 L xs p n (d + 1) v2 (v2 - v1) r21.1 r21.2.1 r21.2.2.1 r21.2.2.2.1 r21.2.2.2.2 M20 o) y22 y23
    exact hp (some (.int v1)) (some (.int (374761393 : Int32)))
-- 220: PlainPacksModel.block(JJI)V (depth 4)
theorem mm_own_220 : mm_own 220 = 12 := rfl
def mp_220_97 (L : Nat) (xs : Nat → Int32) (d : Nat) (v5 : Int32) (v8 : Int32) (v9 : Int32) (M : mm_M) (o : mm_E) : Prop := ∀ z1 z2 z3 z4 z6 z7 : Option Value, mm_Runs L xs d 220 (97, [some (.ref 84), z1, z2, z3, z4, some (.int v5), z6, z7, some (.int v8), some (.int v9)], [], M) o
set_option maxRecDepth 8000 in
set_option maxHeartbeats 4000000 in
theorem ms_220_j97 {L : Nat} {xs : Nat → Int32} {d : Nat} (hd : 4 ≤ d) {v5 : Int32} {v8 : Int32} {v9 : Int32} {M : mm_M} {q : (Unit ⊕ Nat) × mm_M} {o : mm_E} (h : mf_220_j97 v5 v8 v9 M = some q) (hA : mm_A (mm_Kr mm_wv) q o) : mp_220_97 L xs d v5 v8 v9 M o := by
  unfold mf_220_j97 at h
  obtain ⟨d, rfl⟩ := mm_d1 (n := 3) hd
  intro z1 z2 z3 z4 z6 z7
  show mm_Runs L xs (d + 1) 220 (97, [some (.ref 84), z1, z2, z3, z4, some (.int v5), z6, z7, some (.int v8), some (.int v9)], [], M) o
  refine mm_Runs.seq (l := [(97, .iload 5, 2), (99, .bipush 16, 2), (101, .iand, 1)]) (S2 := (102, [some (.ref 84), z1, z2, z3, z4, some (.int v5), z6, z7, some (.int v8), some (.int v9)], [.int (v5 &&& (16 : Int32))], M)) (by decide +kernel) (hO := mm_own_220) rfl ?_
  refine mm_R_zeq (t := 127) rfl rfl rfl (fun hc => ?_) (fun hc => ?_)
  · replace h := mm_ip hc h
    cases h
    exact mm_R_retv rfl rfl hA
  · replace h := mm_iq hc h
    refine mm_Runs.seq (l := [(105, .aload_n 0, 1), (106, .getfield 154, 3)]) (S2 := (109, [some (.ref 84), z1, z2, z3, z4, some (.int v5), z6, z7, some (.int v8), some (.int v9)], [.int (M.1 84 7)], M)) (by decide +kernel) (hO := mm_own_220) rfl ?_
    refine mm_R_zne (t := 127) rfl rfl rfl (fun hc => ?_) (fun hc => ?_)
    · replace h := mm_ip hc h
      refine mm_Runs.seq (l := [(112, .aload_n 0, 1), (113, .aload_n 0, 1), (114, .getfield 7, 3), (117, .iload 8, 2), (119, .iload 9, 2)]) (S2 := (121, [some (.ref 84), z1, z2, z3, z4, some (.int v5), z6, z7, some (.int v8), some (.int v9)], [.int v9, .int v8, .ref 85, .ref 84], M)) (by decide +kernel) (hO := mm_own_220) rfl ?_
      refine mm_R_call (v := mm_wi) h hA (k2 := 188) (as := [.ref 85, .int v8, .int v9]) (r := [.ref 84]) rfl (fun _ => rfl) (fun q hq o ho => ms_188 rfl (by omega) hq ho) (fun r1 M2 h => ?_)
      show mm_Runs L xs (d + 1) 220 (124, [some (.ref 84), z1, z2, z3, z4, some (.int v5), z6, z7, some (.int v8), some (.int v9)], [.int r1, .ref 84], M2) o
      refine mm_R_call (v := mm_wv) h hA (k2 := 213) (as := [.ref 84, .int r1]) (r := []) rfl (fun _ => rfl) (fun q hq o ho => ms_213 (by omega) hq ho) (fun _ M3 h => ?_)
      show mm_Runs L xs (d + 1) 220 (127, [some (.ref 84), z1, z2, z3, z4, some (.int v5), z6, z7, some (.int v8), some (.int v9)], [], M3) o
      cases h
      exact mm_R_retv rfl rfl hA
    · replace h := mm_iq hc h
      cases h
      exact mm_R_retv rfl rfl hA
def mp_220_87 (L : Nat) (xs : Nat → Int32) (d : Nat) (v5 : Int32) (v8 : Int32) (v9 : Int32) (s1 : Int32) (s2 : Int32) (M : mm_M) (o : mm_E) : Prop := ∀ z1 z2 z3 z4 z6 z7 : Option Value, mm_Runs L xs d 220 (87, [some (.ref 84), z1, z2, z3, z4, some (.int v5), z6, z7, some (.int v8), some (.int v9)], [.int s2, .int s1, .ref 84], M) o
set_option maxRecDepth 8000 in
set_option maxHeartbeats 4000000 in
theorem ms_220_j87 {L : Nat} {xs : Nat → Int32} {d : Nat} (hd : 4 ≤ d) {v5 : Int32} {v8 : Int32} {v9 : Int32} {s1 : Int32} {s2 : Int32} {M : mm_M} {q : (Unit ⊕ Nat) × mm_M} {o : mm_E} (h : mf_220_j87 v5 v8 v9 s1 s2 M = some q) (hA : mm_A (mm_Kr mm_wv) q o) : mp_220_87 L xs d v5 v8 v9 s1 s2 M o := by
  unfold mf_220_j87 at h
  obtain ⟨d, rfl⟩ := mm_d1 (n := 3) hd
  intro z1 z2 z3 z4 z6 z7
  show mm_Runs L xs (d + 1) 220 (87, [some (.ref 84), z1, z2, z3, z4, some (.int v5), z6, z7, some (.int v8), some (.int v9)], [.int s2, .int s1, .ref 84], M) o
  refine mm_R_call (v := mm_wv) h hA (k2 := 218) (as := [.ref 84, .int s1, .int s2]) (r := []) rfl (fun _ => rfl) (fun q hq o ho => ms_218 (by omega) hq ho) (fun _ M1 h => ?_)
  show mm_Runs L xs (d + 1) 220 (90, [some (.ref 84), z1, z2, z3, z4, some (.int v5), z6, z7, some (.int v8), some (.int v9)], [], M1) o
  refine mm_Runs.seq (l := [(90, .aload_n 0, 1), (91, .ldc_w 271, 3), (94, .putfield 158, 3)]) (S2 := (97, [some (.ref 84), z1, z2, z3, z4, some (.int v5), z6, z7, some (.int v8), some (.int v9)], [], (mm_pi M1 84 6 (1000000000 : Int32)))) (by decide +kernel) (hO := mm_own_220) rfl ?_
  exact (ms_220_j97 hd h hA : mp_220_97 L xs (d + 1) v5 v8 v9 (mm_pi M1 84 6 (1000000000 : Int32)) o) z1 z2 z3 z4 z6 z7
set_option maxRecDepth 8000 in
set_option maxHeartbeats 4000000 in
theorem ms_220 {L : Nat} {xs : Nat → Int32} {d : Nat} (hd : 4 ≤ d) {v1 : Int64} {v3 : Int64} {v5 : Int32} {M : mm_M} {q : (Unit ⊕ Nat) × mm_M} {o : mm_E} (h : mf_220 v1 v3 v5 M = some q) (hA : mm_A (mm_Kr mm_wv) q o) : mm_Runs L xs d 220 (0, mm_ent (mm_ml 220) [.ref 84, .long v1, .long v3, .int v5], [], M) o := by
  unfold mf_220 at h
  obtain ⟨d, rfl⟩ := mm_d1 (n := 3) hd
  show mm_Runs L xs (d + 1) 220 (0, [some (.ref 84), some (.long v1), none, some (.long v3), none, some (.int v5), none, none, none, none], [], M) o
  refine mm_Runs.seq (l := [(0, .lload_n 1, 1), (1, .ldc2_w 266, 3), (4, .land, 1), (5, .lstore 6, 2), (7, .lload 6, 2), (9, .lload_n 3, 1)]) (S2 := (10, [some (.ref 84), some (.long v1), none, some (.long v3), none, some (.int v5), some (.long (v1 &&& (2147483647 : Int64))), none, none, none], [.long v3, .long (v1 &&& (2147483647 : Int64))], M)) (by decide +kernel) (hO := mm_own_220) rfl ?_
  refine mm_R_lle (t := 19) rfl rfl rfl rfl (fun hc => ?_) (fun hc => ?_)
  · replace h := mm_ip hc h
    refine mm_Runs.seq (l := [(14, .aload_n 0, 1)]) (S2 := (15, [some (.ref 84), some (.long v1), none, some (.long v3), none, some (.int v5), some (.long (v1 &&& (2147483647 : Int64))), none, none, none], [.ref 84], M)) (by decide +kernel) (hO := mm_own_220) rfl ?_
    refine mm_R_call (v := mm_wv) h hA (k2 := 190) (as := [.ref 84]) (r := []) rfl (fun _ => rfl) (fun q hq o ho => ms_190 (by omega) hq ho) (fun _ M1 h => ?_)
    show mm_Runs L xs (d + 1) 220 (18, [some (.ref 84), some (.long v1), none, some (.long v3), none, some (.int v5), some (.long (v1 &&& (2147483647 : Int64))), none, none, none], [], M1) o
    cases h
    exact mm_R_retv rfl rfl hA
  · replace h := mm_iq hc h
    refine mm_Runs.seq (l := [(19, .aload_n 0, 1), (20, .dup, 1), (21, .getfield 116, 3), (24, .iconst 1, 1), (25, .iadd, 1), (26, .putfield 116, 3), (29, .aload_n 0, 1), (30, .getfield 101, 3), (33, .istore 8, 2), (35, .aload_n 0, 1), (36, .getfield 101, 3), (39, .lload 6, 2), (41, .l2i, 1), (42, .iadd, 1), (43, .istore 9, 2), (45, .lload_n 1, 1), (46, .ldc2_w 266, 3)]) (S2 := (49, [some (.ref 84), some (.long v1), none, some (.long v3), none, some (.int v5), some (.long (v1 &&& (2147483647 : Int64))), none, some (.int (M.1 84 5)), some (.int ((M.1 84 5) + (v1 &&& (2147483647 : Int64)).toInt32))], [.long (2147483647 : Int64), .long v1], (mm_pi M 84 12 ((M.1 84 12) + (1 : Int32))))) (by decide +kernel) (hO := mm_own_220) rfl ?_
    refine mm_R_lle (t := 62) rfl rfl rfl rfl (fun hc => ?_) (fun hc => ?_)
    · replace h := mm_ip hc h
      refine mm_Runs.seq (l := [(53, .aload_n 0, 1), (54, .lload 6, 2)]) (S2 := (56, [some (.ref 84), some (.long v1), none, some (.long v3), none, some (.int v5), some (.long (v1 &&& (2147483647 : Int64))), none, some (.int (M.1 84 5)), some (.int ((M.1 84 5) + (v1 &&& (2147483647 : Int64)).toInt32))], [.long (v1 &&& (2147483647 : Int64)), .ref 84], (mm_pi M 84 12 ((M.1 84 12) + (1 : Int32))))) (by decide +kernel) (hO := mm_own_220) rfl ?_
      refine mm_R_call (v := mm_wv) h hA (k2 := 195) (as := [.ref 84, .long (v1 &&& (2147483647 : Int64))]) (r := []) rfl (fun _ => rfl) (fun q hq o ho => ms_195 (by omega) hq ho) (fun _ M2 h => ?_)
      show mm_Runs L xs (d + 1) 220 (59, [some (.ref 84), some (.long v1), none, some (.long v3), none, some (.int v5), some (.long (v1 &&& (2147483647 : Int64))), none, some (.int (M.1 84 5)), some (.int ((M.1 84 5) + (v1 &&& (2147483647 : Int64)).toInt32))], [], M2) o
      refine mm_Runs.seq (l := [(59, .goto 38, 3)]) (S2 := (97, [some (.ref 84), some (.long v1), none, some (.long v3), none, some (.int v5), some (.long (v1 &&& (2147483647 : Int64))), none, some (.int (M.1 84 5)), some (.int ((M.1 84 5) + (v1 &&& (2147483647 : Int64)).toInt32))], [], M2)) (by decide +kernel) (hO := mm_own_220) rfl ?_
      exact (ms_220_j97 hd h hA : mp_220_97 L xs (d + 1) v5 (M.1 84 5) ((M.1 84 5) + (v1 &&& (2147483647 : Int64)).toInt32) M2 o) (some (.long v1)) none (some (.long v3)) none (some (.long (v1 &&& (2147483647 : Int64)))) none
    · replace h := mm_iq hc h
      refine mm_Runs.seq (l := [(62, .aload_n 0, 1), (63, .iload 9, 2), (65, .putfield 158, 3), (68, .aload_n 0, 1), (69, .iload 9, 2), (71, .iload 5, 2), (73, .bipush 32, 2), (75, .iand, 1)]) (S2 := (76, [some (.ref 84), some (.long v1), none, some (.long v3), none, some (.int v5), some (.long (v1 &&& (2147483647 : Int64))), none, some (.int (M.1 84 5)), some (.int ((M.1 84 5) + (v1 &&& (2147483647 : Int64)).toInt32))], [.int (v5 &&& (32 : Int32)), .int ((M.1 84 5) + (v1 &&& (2147483647 : Int64)).toInt32), .ref 84], (mm_pi (mm_pi M 84 12 ((M.1 84 12) + (1 : Int32))) 84 6 ((M.1 84 5) + (v1 &&& (2147483647 : Int64)).toInt32)))) (by decide +kernel) (hO := mm_own_220) rfl ?_
      refine mm_R_zeq (t := 86) rfl rfl rfl (fun hc => ?_) (fun hc => ?_)
      · replace h := mm_ip hc h
        refine mm_Runs.seq (l := [(86, .iconst 0, 1)]) (S2 := (87, [some (.ref 84), some (.long v1), none, some (.long v3), none, some (.int v5), some (.long (v1 &&& (2147483647 : Int64))), none, some (.int (M.1 84 5)), some (.int ((M.1 84 5) + (v1 &&& (2147483647 : Int64)).toInt32))], [.int (0 : Int32), .int ((M.1 84 5) + (v1 &&& (2147483647 : Int64)).toInt32), .ref 84], (mm_pi (mm_pi M 84 12 ((M.1 84 12) + (1 : Int32))) 84 6 ((M.1 84 5) + (v1 &&& (2147483647 : Int64)).toInt32)))) (by decide +kernel) (hO := mm_own_220) rfl ?_
        exact (ms_220_j87 hd h hA : mp_220_87 L xs (d + 1) v5 (M.1 84 5) ((M.1 84 5) + (v1 &&& (2147483647 : Int64)).toInt32) ((M.1 84 5) + (v1 &&& (2147483647 : Int64)).toInt32) (0 : Int32) (mm_pi (mm_pi M 84 12 ((M.1 84 12) + (1 : Int32))) 84 6 ((M.1 84 5) + (v1 &&& (2147483647 : Int64)).toInt32)) o) (some (.long v1)) none (some (.long v3)) none (some (.long (v1 &&& (2147483647 : Int64)))) none
      · replace h := mm_iq hc h
        refine mm_Runs.seq (l := [(79, .aload_n 0, 1), (80, .getfield 98, 3), (83, .goto 4, 3)]) (S2 := (87, [some (.ref 84), some (.long v1), none, some (.long v3), none, some (.int v5), some (.long (v1 &&& (2147483647 : Int64))), none, some (.int (M.1 84 5)), some (.int ((M.1 84 5) + (v1 &&& (2147483647 : Int64)).toInt32))], [.int (M.1 84 4), .int ((M.1 84 5) + (v1 &&& (2147483647 : Int64)).toInt32), .ref 84], (mm_pi (mm_pi M 84 12 ((M.1 84 12) + (1 : Int32))) 84 6 ((M.1 84 5) + (v1 &&& (2147483647 : Int64)).toInt32)))) (by decide +kernel) (hO := mm_own_220) rfl ?_
        exact (ms_220_j87 hd h hA : mp_220_87 L xs (d + 1) v5 (M.1 84 5) ((M.1 84 5) + (v1 &&& (2147483647 : Int64)).toInt32) ((M.1 84 5) + (v1 &&& (2147483647 : Int64)).toInt32) (M.1 84 4) (mm_pi (mm_pi M 84 12 ((M.1 84 12) + (1 : Int32))) 84 6 ((M.1 84 5) + (v1 &&& (2147483647 : Int64)).toInt32)) o) (some (.long v1)) none (some (.long v3)) none (some (.long (v1 &&& (2147483647 : Int64)))) none
-- 219: PlainPacksModel.frame()V (depth 5)
theorem mm_own_219 : mm_own 219 = 12 := rfl
def mp_219_58 (L : Nat) (xs : Nat → Int32) (d : Nat) (v1 : Int32) (v2 : Int32) (M : mm_M) (o : mm_E) : Prop := ∀ z3 z4 z5 z6 z7 z8 z9 z10 : Option Value, mm_Runs L xs d 219 (58, [some (.ref 84), some (.int v1), some (.int v2), z3, z4, z5, z6, z7, z8, z9, z10], [], M) o
def mp_219_92 (L : Nat) (xs : Nat → Int32) (d : Nat) (v1 : Int32) (v2 : Int32) (v4 : Int32) (M : mm_M) (o : mm_E) : Prop := ∀ z3 z5 z6 z7 z8 z9 z10 : Option Value, mm_Runs L xs d 219 (92, [some (.ref 84), some (.int v1), some (.int v2), z3, some (.int v4), z5, z6, z7, z8, z9, z10], [], M) o
def mp_219_96 (L : Nat) (xs : Nat → Int32) (d : Nat) (v1 : Int32) (v2 : Int32) (v4 : Int32) (M : mm_M) (o : mm_E) : Prop := ∀ z3 z5 z6 z7 z8 z9 z10 : Option Value, mm_Runs L xs d 219 (96, [some (.ref 84), some (.int v1), some (.int v2), z3, some (.int v4), z5, z6, z7, z8, z9, z10], [], M) o
def mp_219_113 (L : Nat) (xs : Nat → Int32) (d : Nat) (v1 : Int32) (v2 : Int32) (v4 : Int32) (s0 : Int64) (M : mm_M) (o : mm_E) : Prop := ∀ z3 z5 z6 z7 z8 z9 z10 : Option Value, mm_Runs L xs d 219 (113, [some (.ref 84), some (.int v1), some (.int v2), z3, some (.int v4), z5, z6, z7, z8, z9, z10], [.long s0], M) o
def mp_219_145 (L : Nat) (xs : Nat → Int32) (d : Nat) (v2 : Int32) (v4 : Int32) (v5 : Int64) (s0 : Int32) (M : mm_M) (o : mm_E) : Prop := ∀ z1 z3 z6 z7 z8 z9 z10 : Option Value, mm_Runs L xs d 219 (145, [some (.ref 84), z1, some (.int v2), z3, some (.int v4), some (.long v5), z6, z7, z8, z9, z10], [.int s0], M) o
def mp_219_156 (L : Nat) (xs : Nat → Int32) (d : Nat) (v2 : Int32) (v4 : Int32) (v5 : Int64) (v8 : Int32) (M : mm_M) (o : mm_E) : Prop := ∀ z1 z3 z6 z7 z9 z10 : Option Value, mm_Runs L xs d 219 (156, [some (.ref 84), z1, some (.int v2), z3, some (.int v4), some (.long v5), z6, z7, some (.int v8), z9, z10], [], M) o
def mp_219_220 (L : Nat) (xs : Nat → Int32) (d : Nat) (v2 : Int32) (v5 : Int64) (M : mm_M) (o : mm_E) : Prop := ∀ z1 z3 z4 z6 z7 z8 z9 z10 : Option Value, mm_Runs L xs d 219 (220, [some (.ref 84), z1, some (.int v2), z3, z4, some (.long v5), z6, z7, z8, z9, z10], [], M) o
def mp_219_187 (L : Nat) (xs : Nat → Int32) (d : Nat) (v2 : Int32) (v4 : Int32) (v5 : Int64) (v9 : Int64) (s0 : Int32) (M : mm_M) (o : mm_E) : Prop := ∀ z1 z3 z6 z7 z8 z10 : Option Value, mm_Runs L xs d 219 (187, [some (.ref 84), z1, some (.int v2), z3, some (.int v4), some (.long v5), z6, z7, z8, some (.long v9), z10], [.int s0], M) o
set_option maxRecDepth 8000 in
set_option maxHeartbeats 4000000 in
theorem ms_219_j187 {L : Nat} {xs : Nat → Int32} {d : Nat} (hd : 5 ≤ d) {v2 : Int32} {v4 : Int32} {v5 : Int64} {v9 : Int64} {s0 : Int32} {M : mm_M} {q : (((Int32) ⊕ (Unit)) ⊕ Nat) × mm_M} {o : mm_E} (h : mf_219_j187 v2 v4 v5 v9 s0 M = some q) (hA : mm_A (mm_K2 (fun s M o => mp_219_156 L xs (d) v2 v4 v5 s M o) (fun r M o => mp_219_220 L xs (d) v2 v5 M o)) q o) : mp_219_187 L xs d v2 v4 v5 v9 s0 M o := by
  unfold mf_219_j187 at h
  obtain ⟨d, rfl⟩ := mm_d1 (n := 4) hd
  intro z1 z3 z6 z7 z8 z10
  show mm_Runs L xs (d + 1) 219 (187, [some (.ref 84), z1, some (.int v2), z3, some (.int v4), some (.long v5), z6, z7, z8, some (.long v9), z10], [.int s0], M) o
  refine mm_Runs.seq (l := [(187, .istore 8, 2), (189, .iload 8, 2)]) (S2 := (191, [some (.ref 84), z1, some (.int v2), z3, some (.int v4), some (.long v5), z6, (mm_no2 z7), some (.int s0), some (.long v9), z10], [.int s0], M)) (by decide +kernel) (hO := mm_own_219) rfl ?_
  refine mm_R_zeq (t := 217) rfl rfl rfl (fun hc => ?_) (fun hc => ?_)
  · replace h := mm_ip hc h
    refine mm_Runs.seq (l := [(217, .goto (-61), 3)]) (S2 := (156, [some (.ref 84), z1, some (.int v2), z3, some (.int v4), some (.long v5), z6, (mm_no2 z7), some (.int s0), some (.long v9), z10], [], M)) (by decide +kernel) (hO := mm_own_219) rfl ?_
    cases h
    exact (show mp_219_156 L xs (d + 1) v2 v4 v5 s0 M o from hA) z1 z3 z6 ((mm_no2 z7)) (some (.long v9)) z10
  · replace h := mm_iq hc h
    refine mm_Runs.seq (l := [(194, .aload_n 0, 1), (195, .getfield 154, 3)]) (S2 := (198, [some (.ref 84), z1, some (.int v2), z3, some (.int v4), some (.long v5), z6, (mm_no2 z7), some (.int s0), some (.long v9), z10], [.int (M.1 84 7)], M)) (by decide +kernel) (hO := mm_own_219) rfl ?_
    refine mm_R_zne (t := 217) rfl rfl rfl (fun hc => ?_) (fun hc => ?_)
    · replace h := mm_ip hc h
      refine mm_Runs.seq (l := [(201, .aload_n 0, 1), (202, .lload 9, 2), (204, .lconst 1, 1), (205, .bipush 8, 2), (207, .iconst 2, 1), (208, .iload 4, 2), (210, .imul, 1), (211, .iadd, 1), (212, .lshl, 1), (213, .iload_n 2, 1)]) (S2 := (214, [some (.ref 84), z1, some (.int v2), z3, some (.int v4), some (.long v5), z6, (mm_no2 z7), some (.int s0), some (.long v9), z10], [.int v2, .long (mm_lshl (1 : Int64) ((8 : Int32) + ((2 : Int32) * v4))), .long v9, .ref 84], M)) (by decide +kernel) (hO := mm_own_219) rfl ?_
      refine mm_R_call (v := mm_wv) h hA (k2 := 220) (as := [.ref 84, .long v9, .long (mm_lshl (1 : Int64) ((8 : Int32) + ((2 : Int32) * v4))), .int v2]) (r := []) rfl (fun _ => rfl) (fun q hq o ho => ms_220 (by omega) hq ho) (fun _ M1 h => ?_)
      show mm_Runs L xs (d + 1) 219 (217, [some (.ref 84), z1, some (.int v2), z3, some (.int v4), some (.long v5), z6, (mm_no2 z7), some (.int s0), some (.long v9), z10], [], M1) o
      refine mm_Runs.seq (l := [(217, .goto (-61), 3)]) (S2 := (156, [some (.ref 84), z1, some (.int v2), z3, some (.int v4), some (.long v5), z6, (mm_no2 z7), some (.int s0), some (.long v9), z10], [], M1)) (by decide +kernel) (hO := mm_own_219) rfl ?_
      cases h
      exact (show mp_219_156 L xs (d + 1) v2 v4 v5 s0 M1 o from hA) z1 z3 z6 ((mm_no2 z7)) (some (.long v9)) z10
    · replace h := mm_iq hc h
      refine mm_Runs.seq (l := [(217, .goto (-61), 3)]) (S2 := (156, [some (.ref 84), z1, some (.int v2), z3, some (.int v4), some (.long v5), z6, (mm_no2 z7), some (.int s0), some (.long v9), z10], [], M)) (by decide +kernel) (hO := mm_own_219) rfl ?_
      cases h
      exact (show mp_219_156 L xs (d + 1) v2 v4 v5 s0 M o from hA) z1 z3 z6 ((mm_no2 z7)) (some (.long v9)) z10
set_option maxRecDepth 8000 in
set_option maxHeartbeats 4000000 in
theorem ms_219_b156 {L : Nat} {xs : Nat → Int32} {d : Nat} (hd : 5 ≤ d) {v2 : Int32} {v4 : Int32} {v5 : Int64} {v8 : Int32} {M : mm_M} {q : (((Int32) ⊕ (Unit)) ⊕ Nat) × mm_M} {o : mm_E} (h : mf_219_b156 v2 v4 v5 v8 M = some q) (hA : mm_A (mm_K2 (fun s M o => mp_219_156 L xs (d) v2 v4 v5 s M o) (fun r M o => mp_219_220 L xs (d) v2 v5 M o)) q o) : mp_219_156 L xs d v2 v4 v5 v8 M o := by
  unfold mf_219_b156 at h
  obtain ⟨d, rfl⟩ := mm_d1 (n := 4) hd
  intro z1 z3 z6 z7 z9 z10
  show mm_Runs L xs (d + 1) 219 (156, [some (.ref 84), z1, some (.int v2), z3, some (.int v4), some (.long v5), z6, z7, some (.int v8), z9, z10], [], M) o
  refine mm_Runs.seq (l := [(156, .iload 8, 2)]) (S2 := (158, [some (.ref 84), z1, some (.int v2), z3, some (.int v4), some (.long v5), z6, z7, some (.int v8), z9, z10], [.int v8], M)) (by decide +kernel) (hO := mm_own_219) rfl ?_
  refine mm_R_zeq (t := 220) rfl rfl rfl (fun hc => ?_) (fun hc => ?_)
  · replace h := mm_ip hc h
    cases h
    exact (show mp_219_220 L xs (d + 1) v2 v5 M o from hA) z1 z3 (some (.int v4)) z6 z7 (some (.int v8)) z9 z10
  · replace h := mm_iq hc h
    refine mm_Runs.seq (l := [(161, .aload_n 0, 1), (162, .getfield 154, 3)]) (S2 := (165, [some (.ref 84), z1, some (.int v2), z3, some (.int v4), some (.long v5), z6, z7, some (.int v8), z9, z10], [.int (M.1 84 7)], M)) (by decide +kernel) (hO := mm_own_219) rfl ?_
    refine mm_R_zne (t := 220) rfl rfl rfl (fun hc => ?_) (fun hc => ?_)
    · replace h := mm_ip hc h
      refine mm_Runs.seq (l := [(168, .aload_n 0, 1), (169, .iconst 4, 1)]) (S2 := (170, [some (.ref 84), z1, some (.int v2), z3, some (.int v4), some (.long v5), z6, z7, some (.int v8), z9, z10], [.int (4 : Int32), .ref 84], M)) (by decide +kernel) (hO := mm_own_219) rfl ?_
      refine mm_R_call (v := mm_wl) h hA (k2 := 193) (as := [.ref 84, .int (4 : Int32)]) (r := []) rfl (fun _ => rfl) (fun q hq o ho => ms_193 (by omega) hq ho) (fun r1 M2 h => ?_)
      show mm_Runs L xs (d + 1) 219 (173, [some (.ref 84), z1, some (.int v2), z3, some (.int v4), some (.long v5), z6, z7, some (.int v8), z9, z10], [.long r1], M2) o
      refine mm_Runs.seq (l := [(173, .lstore 9, 2), (175, .lload 9, 2), (177, .lconst 0, 1)]) (S2 := (178, [some (.ref 84), z1, some (.int v2), z3, some (.int v4), some (.long v5), z6, z7, some (.int v8), some (.long r1), none], [.long (0 : Int64), .long r1], M2)) (by decide +kernel) (hO := mm_own_219) rfl ?_
      refine mm_R_leq (t := 186) rfl rfl rfl rfl (fun hc => ?_) (fun hc => ?_)
      · replace h := mm_ip hc h
        refine mm_Runs.seq (l := [(186, .iconst 0, 1)]) (S2 := (187, [some (.ref 84), z1, some (.int v2), z3, some (.int v4), some (.long v5), z6, z7, some (.int v8), some (.long r1), none], [.int (0 : Int32)], M2)) (by decide +kernel) (hO := mm_own_219) rfl ?_
        exact (ms_219_j187 hd h hA : mp_219_187 L xs (d + 1) v2 v4 v5 r1 (0 : Int32) M2 o) z1 z3 z6 z7 (some (.int v8)) none
      · replace h := mm_iq hc h
        refine mm_Runs.seq (l := [(182, .iconst 1, 1), (183, .goto 4, 3)]) (S2 := (187, [some (.ref 84), z1, some (.int v2), z3, some (.int v4), some (.long v5), z6, z7, some (.int v8), some (.long r1), none], [.int (1 : Int32)], M2)) (by decide +kernel) (hO := mm_own_219) rfl ?_
        exact (ms_219_j187 hd h hA : mp_219_187 L xs (d + 1) v2 v4 v5 r1 (1 : Int32) M2 o) z1 z3 z6 z7 (some (.int v8)) none
    · replace h := mm_iq hc h
      cases h
      exact (show mp_219_220 L xs (d + 1) v2 v5 M o from hA) z1 z3 (some (.int v4)) z6 z7 (some (.int v8)) z9 z10
theorem ms_219_L156 {L : Nat} {xs : Nat → Int32} {d : Nat} (hd : 5 ≤ d) {v2 : Int32} {v4 : Int32} {v5 : Int64} {v8 : Int32} {β : Type} {K : β → mm_M → mm_E → Prop} {F : (Unit) → mm_M → mm_O β} {M : mm_M} {q : (β ⊕ Nat) × mm_M} {o : mm_E} (h : mm_B (mf_219_L156 v2 v4 v5 v8 M) F = some q) (hA : mm_A K q o) (hx : ∀ (r : (Unit)) (M2 : mm_M), F r M2 = some q → (fun r M o => mp_219_220 L xs (d) v2 v5 M o) r M2 o) : mp_219_156 L xs d v2 v4 v5 v8 M o := by
  unfold mf_219_L156 at h
  exact mm_R_loop (step := (fun s M => mf_219_b156 v2 v4 v5 s M)) (s := v8) (M := M) (P := (fun s M o => mp_219_156 L xs (d) v2 v4 v5 s M o)) (X := (fun r M o => mp_219_220 L xs (d) v2 v5 M o)) h hA (fun s M q hq hA => ms_219_b156 (v2 := v2) (v4 := v4) (v5 := v5) (v8 := s) (M := M) (q := q) hd hq hA) hx
def mp_219_249 (L : Nat) (xs : Nat → Int32) (d : Nat) (v2 : Int32) (M : mm_M) (o : mm_E) : Prop := ∀ z1 z3 z4 z5 z6 z7 z8 z9 z10 : Option Value, mm_Runs L xs d 219 (249, [some (.ref 84), z1, some (.int v2), z3, z4, z5, z6, z7, z8, z9, z10], [], M) o
set_option maxRecDepth 8000 in
set_option maxHeartbeats 4000000 in
theorem ms_219_j249 {L : Nat} {xs : Nat → Int32} {d : Nat} (hd : 5 ≤ d) {v2 : Int32} {M : mm_M} {q : (Unit ⊕ Nat) × mm_M} {o : mm_E} (h : mf_219_j249 v2 M = some q) (hA : mm_A (mm_Kr mm_wv) q o) : mp_219_249 L xs d v2 M o := by
  unfold mf_219_j249 at h
  obtain ⟨d, rfl⟩ := mm_d1 (n := 4) hd
  intro z1 z3 z4 z5 z6 z7 z8 z9 z10
  show mm_Runs L xs (d + 1) 219 (249, [some (.ref 84), z1, some (.int v2), z3, z4, z5, z6, z7, z8, z9, z10], [], M) o
  refine mm_Runs.seq (l := [(249, .iload_n 2, 1), (250, .iconst 4, 1), (251, .iand, 1)]) (S2 := (252, [some (.ref 84), z1, some (.int v2), z3, z4, z5, z6, z7, z8, z9, z10], [.int (v2 &&& (4 : Int32))], M)) (by decide +kernel) (hO := mm_own_219) rfl ?_
  refine mm_R_zeq (t := 271) rfl rfl rfl (fun hc => ?_) (fun hc => ?_)
  · replace h := mm_ip hc h
    cases h
    exact mm_R_retv rfl rfl hA
  · replace h := mm_iq hc h
    refine mm_Runs.seq (l := [(255, .aload_n 0, 1), (256, .aload_n 0, 1), (257, .getfield 13, 3), (260, .iconst 0, 1), (261, .aload_n 0, 1), (262, .getfield 98, 3)]) (S2 := (265, [some (.ref 84), z1, some (.int v2), z3, z4, z5, z6, z7, z8, z9, z10], [.int (M.1 84 4), .int (0 : Int32), .ref 86, .ref 84], M)) (by decide +kernel) (hO := mm_own_219) rfl ?_
    refine mm_R_call (v := mm_wi) h hA (k2 := 188) (as := [.ref 86, .int (0 : Int32), .int (M.1 84 4)]) (r := [.ref 84]) rfl (fun _ => rfl) (fun q hq o ho => ms_188 rfl (by omega) hq ho) (fun r1 M2 h => ?_)
    show mm_Runs L xs (d + 1) 219 (268, [some (.ref 84), z1, some (.int v2), z3, z4, z5, z6, z7, z8, z9, z10], [.int r1, .ref 84], M2) o
    refine mm_R_call (v := mm_wv) h hA (k2 := 213) (as := [.ref 84, .int r1]) (r := []) rfl (fun _ => rfl) (fun q hq o ho => ms_213 (by omega) hq ho) (fun _ M3 h => ?_)
    show mm_Runs L xs (d + 1) 219 (271, [some (.ref 84), z1, some (.int v2), z3, z4, z5, z6, z7, z8, z9, z10], [], M3) o
    cases h
    exact mm_R_retv rfl rfl hA
set_option maxRecDepth 8000 in
set_option maxHeartbeats 4000000 in
theorem ms_219_j220 {L : Nat} {xs : Nat → Int32} {d : Nat} (hd : 5 ≤ d) {v2 : Int32} {v5 : Int64} {M : mm_M} {q : (Unit ⊕ Nat) × mm_M} {o : mm_E} (h : mf_219_j220 v2 v5 M = some q) (hA : mm_A (mm_Kr mm_wv) q o) : mp_219_220 L xs d v2 v5 M o := by
  unfold mf_219_j220 at h
  obtain ⟨d, rfl⟩ := mm_d1 (n := 4) hd
  intro z1 z3 z4 z6 z7 z8 z9 z10
  show mm_Runs L xs (d + 1) 219 (220, [some (.ref 84), z1, some (.int v2), z3, z4, some (.long v5), z6, z7, z8, z9, z10], [], M) o
  refine mm_Runs.seq (l := [(220, .aload_n 0, 1), (221, .getfield 154, 3)]) (S2 := (224, [some (.ref 84), z1, some (.int v2), z3, z4, some (.long v5), z6, z7, z8, z9, z10], [.int (M.1 84 7)], M)) (by decide +kernel) (hO := mm_own_219) rfl ?_
  refine mm_R_zne (t := 249) rfl rfl rfl (fun hc => ?_) (fun hc => ?_)
  · replace h := mm_ip hc h
    refine mm_Runs.seq (l := [(227, .iload_n 2, 1), (228, .bipush 8, 2), (230, .iand, 1)]) (S2 := (231, [some (.ref 84), z1, some (.int v2), z3, z4, some (.long v5), z6, z7, z8, z9, z10], [.int (v2 &&& (8 : Int32))], M)) (by decide +kernel) (hO := mm_own_219) rfl ?_
    refine mm_R_zeq (t := 249) rfl rfl rfl (fun hc => ?_) (fun hc => ?_)
    · replace h := mm_ip hc h
      exact (ms_219_j249 hd h hA : mp_219_249 L xs (d + 1) v2 M o) z1 z3 z4 (some (.long v5)) z6 z7 z8 z9 z10
    · replace h := mm_iq hc h
      refine mm_Runs.seq (l := [(234, .lload 5, 2), (236, .aload_n 0, 1), (237, .getfield 98, 3), (240, .i2l, 1)]) (S2 := (241, [some (.ref 84), z1, some (.int v2), z3, z4, some (.long v5), z6, z7, z8, z9, z10], [.long (M.1 84 4).toInt64, .long v5], M)) (by decide +kernel) (hO := mm_own_219) rfl ?_
      refine mm_R_leq (t := 249) rfl rfl rfl rfl (fun hc => ?_) (fun hc => ?_)
      · replace h := mm_ip hc h
        exact (ms_219_j249 hd h hA : mp_219_249 L xs (d + 1) v2 M o) z1 z3 z4 (some (.long v5)) z6 z7 z8 z9 z10
      · replace h := mm_iq hc h
        refine mm_Runs.seq (l := [(245, .aload_n 0, 1)]) (S2 := (246, [some (.ref 84), z1, some (.int v2), z3, z4, some (.long v5), z6, z7, z8, z9, z10], [.ref 84], M)) (by decide +kernel) (hO := mm_own_219) rfl ?_
        refine mm_R_call (v := mm_wv) h hA (k2 := 190) (as := [.ref 84]) (r := []) rfl (fun _ => rfl) (fun q hq o ho => ms_190 (by omega) hq ho) (fun _ M1 h => ?_)
        show mm_Runs L xs (d + 1) 219 (249, [some (.ref 84), z1, some (.int v2), z3, z4, some (.long v5), z6, z7, z8, z9, z10], [], M1) o
        exact (ms_219_j249 hd h hA : mp_219_249 L xs (d + 1) v2 M1 o) z1 z3 z4 (some (.long v5)) z6 z7 z8 z9 z10
  · replace h := mm_iq hc h
    exact (ms_219_j249 hd h hA : mp_219_249 L xs (d + 1) v2 M o) z1 z3 z4 (some (.long v5)) z6 z7 z8 z9 z10
set_option maxRecDepth 8000 in
set_option maxHeartbeats 4000000 in
theorem ms_219_j145 {L : Nat} {xs : Nat → Int32} {d : Nat} (hd : 5 ≤ d) {v2 : Int32} {v4 : Int32} {v5 : Int64} {s0 : Int32} {M : mm_M} {q : (Unit ⊕ Nat) × mm_M} {o : mm_E} (h : mf_219_j145 v2 v4 v5 s0 M = some q) (hA : mm_A (mm_Kr mm_wv) q o) : mp_219_145 L xs d v2 v4 v5 s0 M o := by
  unfold mf_219_j145 at h
  obtain ⟨d, rfl⟩ := mm_d1 (n := 4) hd
  intro z1 z3 z6 z7 z8 z9 z10
  show mm_Runs L xs (d + 1) 219 (145, [some (.ref 84), z1, some (.int v2), z3, some (.int v4), some (.long v5), z6, z7, z8, z9, z10], [.int s0], M) o
  refine mm_Runs.seq (l := [(145, .istore 7, 2), (147, .aload_n 0, 1), (148, .iload 7, 2)]) (S2 := (150, [some (.ref 84), z1, some (.int v2), z3, some (.int v4), some (.long v5), (mm_no2 z6), some (.int s0), z8, z9, z10], [.int s0, .ref 84], M)) (by decide +kernel) (hO := mm_own_219) rfl ?_
  refine mm_R_call (v := mm_wv) h hA (k2 := 192) (as := [.ref 84, .int s0]) (r := []) rfl (fun _ => rfl) (fun q hq o ho => ms_192 (by omega) hq ho) (fun _ M1 h => ?_)
  show mm_Runs L xs (d + 1) 219 (153, [some (.ref 84), z1, some (.int v2), z3, some (.int v4), some (.long v5), (mm_no2 z6), some (.int s0), z8, z9, z10], [], M1) o
  refine mm_Runs.seq (l := [(153, .iconst 1, 1), (154, .istore 8, 2)]) (S2 := (156, [some (.ref 84), z1, some (.int v2), z3, some (.int v4), some (.long v5), (mm_no2 z6), some (.int s0), some (.int (1 : Int32)), z9, z10], [], M1)) (by decide +kernel) (hO := mm_own_219) rfl ?_
  have hp : mp_219_156 L xs (d + 1) v2 v4 v5 (1 : Int32) M1 o := by
    refine ms_219_L156 hd h hA (fun r3 M2 h => ?_)
    intro y4 y5 y6 y7 y8 y9 y10 y11
    show mm_Runs L xs (d + 1) 219 (220, [some (.ref 84), y4, some (.int v2), y5, y6, some (.long v5), y7, y8, y9, y10, y11], [], M2) o
    exact (ms_219_j220 hd h hA : mp_219_220 L xs (d + 1) v2 v5 M2 o) y4 y5 y6 y7 y8 y9 y10 y11
  exact hp z1 z3 ((mm_no2 z6)) (some (.int s0)) z9 z10
set_option maxRecDepth 8000 in
set_option maxHeartbeats 4000000 in
theorem ms_219_j113 {L : Nat} {xs : Nat → Int32} {d : Nat} (hd : 5 ≤ d) {v1 : Int32} {v2 : Int32} {v4 : Int32} {s0 : Int64} {M : mm_M} {q : (Unit ⊕ Nat) × mm_M} {o : mm_E} (h : mf_219_j113 v1 v2 v4 s0 M = some q) (hA : mm_A (mm_Kr mm_wv) q o) : mp_219_113 L xs d v1 v2 v4 s0 M o := by
  unfold mf_219_j113 at h
  obtain ⟨d, rfl⟩ := mm_d1 (n := 4) hd
  intro z3 z5 z6 z7 z8 z9 z10
  show mm_Runs L xs (d + 1) 219 (113, [some (.ref 84), some (.int v1), some (.int v2), z3, some (.int v4), z5, z6, z7, z8, z9, z10], [.long s0], M) o
  refine mm_Runs.seq (l := [(113, .lstore 5, 2), (115, .aload_n 0, 1), (116, .getfield 154, 3)]) (S2 := (119, [some (.ref 84), some (.int v1), some (.int v2), z3, some (.int v4), some (.long s0), none, z7, z8, z9, z10], [.int (M.1 84 7)], M)) (by decide +kernel) (hO := mm_own_219) rfl ?_
  refine mm_R_zeq (t := 126) rfl rfl rfl (fun hc => ?_) (fun hc => ?_)
  · replace h := mm_ip hc h
    refine mm_Runs.seq (l := [(126, .aload_n 0, 1), (127, .getfield 7, 3), (130, .iload_n 1, 1), (131, .aload_n 0, 1), (132, .getfield 101, 3)]) (S2 := (135, [some (.ref 84), some (.int v1), some (.int v2), z3, some (.int v4), some (.long s0), none, z7, z8, z9, z10], [.int (M.1 84 5), .int v1, .ref 85], M)) (by decide +kernel) (hO := mm_own_219) rfl ?_
    refine mm_R_call (v := mm_wi) h hA (k2 := 188) (as := [.ref 85, .int v1, .int (M.1 84 5)]) (r := []) rfl (fun _ => rfl) (fun q hq o ho => ms_188 rfl (by omega) hq ho) (fun r1 M2 h => ?_)
    show mm_Runs L xs (d + 1) 219 (138, [some (.ref 84), some (.int v1), some (.int v2), z3, some (.int v4), some (.long s0), none, z7, z8, z9, z10], [.int r1], M2) o
    refine mm_Runs.seq (l := [(138, .bipush 8, 2), (140, .iushr, 1), (141, .sipush 255, 3), (144, .iand, 1)]) (S2 := (145, [some (.ref 84), some (.int v1), some (.int v2), z3, some (.int v4), some (.long s0), none, z7, z8, z9, z10], [.int ((mm_ush r1 (8 : Int32)) &&& (255 : Int32))], M2)) (by decide +kernel) (hO := mm_own_219) rfl ?_
    exact (ms_219_j145 hd h hA : mp_219_145 L xs (d + 1) v2 v4 s0 ((mm_ush r1 (8 : Int32)) &&& (255 : Int32)) M2 o) (some (.int v1)) z3 none z7 z8 z9 z10
  · replace h := mm_iq hc h
    refine mm_Runs.seq (l := [(122, .iconst 0, 1), (123, .goto 22, 3)]) (S2 := (145, [some (.ref 84), some (.int v1), some (.int v2), z3, some (.int v4), some (.long s0), none, z7, z8, z9, z10], [.int (0 : Int32)], M)) (by decide +kernel) (hO := mm_own_219) rfl ?_
    exact (ms_219_j145 hd h hA : mp_219_145 L xs (d + 1) v2 v4 s0 (0 : Int32) M o) (some (.int v1)) z3 none z7 z8 z9 z10
set_option maxRecDepth 8000 in
set_option maxHeartbeats 4000000 in
theorem ms_219_j96 {L : Nat} {xs : Nat → Int32} {d : Nat} (hd : 5 ≤ d) {v1 : Int32} {v2 : Int32} {v4 : Int32} {M : mm_M} {q : (Unit ⊕ Nat) × mm_M} {o : mm_E} (h : mf_219_j96 v1 v2 v4 M = some q) (hA : mm_A (mm_Kr mm_wv) q o) : mp_219_96 L xs d v1 v2 v4 M o := by
  unfold mf_219_j96 at h
  obtain ⟨d, rfl⟩ := mm_d1 (n := 4) hd
  intro z3 z5 z6 z7 z8 z9 z10
  show mm_Runs L xs (d + 1) 219 (96, [some (.ref 84), some (.int v1), some (.int v2), z3, some (.int v4), z5, z6, z7, z8, z9, z10], [], M) o
  refine mm_Runs.seq (l := [(96, .iload_n 2, 1), (97, .bipush 8, 2), (99, .iand, 1)]) (S2 := (100, [some (.ref 84), some (.int v1), some (.int v2), z3, some (.int v4), z5, z6, z7, z8, z9, z10], [.int (v2 &&& (8 : Int32))], M)) (by decide +kernel) (hO := mm_own_219) rfl ?_
  refine mm_R_zeq (t := 112) rfl rfl rfl (fun hc => ?_) (fun hc => ?_)
  · replace h := mm_ip hc h
    refine mm_Runs.seq (l := [(112, .lconst 0, 1)]) (S2 := (113, [some (.ref 84), some (.int v1), some (.int v2), z3, some (.int v4), z5, z6, z7, z8, z9, z10], [.long (0 : Int64)], M)) (by decide +kernel) (hO := mm_own_219) rfl ?_
    exact (ms_219_j113 hd h hA : mp_219_113 L xs (d + 1) v1 v2 v4 (0 : Int64) M o) z3 z5 z6 z7 z8 z9 z10
  · replace h := mm_iq hc h
    refine mm_Runs.seq (l := [(103, .aload_n 0, 1), (104, .bipush 8, 2)]) (S2 := (106, [some (.ref 84), some (.int v1), some (.int v2), z3, some (.int v4), z5, z6, z7, z8, z9, z10], [.int (8 : Int32), .ref 84], M)) (by decide +kernel) (hO := mm_own_219) rfl ?_
    refine mm_R_call (v := mm_wl) h hA (k2 := 193) (as := [.ref 84, .int (8 : Int32)]) (r := []) rfl (fun _ => rfl) (fun q hq o ho => ms_193 (by omega) hq ho) (fun r1 M2 h => ?_)
    show mm_Runs L xs (d + 1) 219 (109, [some (.ref 84), some (.int v1), some (.int v2), z3, some (.int v4), z5, z6, z7, z8, z9, z10], [.long r1], M2) o
    refine mm_Runs.seq (l := [(109, .goto 4, 3)]) (S2 := (113, [some (.ref 84), some (.int v1), some (.int v2), z3, some (.int v4), z5, z6, z7, z8, z9, z10], [.long r1], M2)) (by decide +kernel) (hO := mm_own_219) rfl ?_
    exact (ms_219_j113 hd h hA : mp_219_113 L xs (d + 1) v1 v2 v4 r1 M2 o) z3 z5 z6 z7 z8 z9 z10
set_option maxRecDepth 8000 in
set_option maxHeartbeats 4000000 in
theorem ms_219_j92 {L : Nat} {xs : Nat → Int32} {d : Nat} (hd : 5 ≤ d) {v1 : Int32} {v2 : Int32} {v4 : Int32} {M : mm_M} {q : (Unit ⊕ Nat) × mm_M} {o : mm_E} (h : mf_219_j92 v1 v2 v4 M = some q) (hA : mm_A (mm_Kr mm_wv) q o) : mp_219_92 L xs d v1 v2 v4 M o := by
  unfold mf_219_j92 at h
  obtain ⟨d, rfl⟩ := mm_d1 (n := 4) hd
  intro z3 z5 z6 z7 z8 z9 z10
  show mm_Runs L xs (d + 1) 219 (92, [some (.ref 84), some (.int v1), some (.int v2), z3, some (.int v4), z5, z6, z7, z8, z9, z10], [], M) o
  refine mm_Runs.seq (l := [(92, .aload_n 0, 1)]) (S2 := (93, [some (.ref 84), some (.int v1), some (.int v2), z3, some (.int v4), z5, z6, z7, z8, z9, z10], [.ref 84], M)) (by decide +kernel) (hO := mm_own_219) rfl ?_
  refine mm_R_call (v := mm_wv) h hA (k2 := 190) (as := [.ref 84]) (r := []) rfl (fun _ => rfl) (fun q hq o ho => ms_190 (by omega) hq ho) (fun _ M1 h => ?_)
  show mm_Runs L xs (d + 1) 219 (96, [some (.ref 84), some (.int v1), some (.int v2), z3, some (.int v4), z5, z6, z7, z8, z9, z10], [], M1) o
  exact (ms_219_j96 hd h hA : mp_219_96 L xs (d + 1) v1 v2 v4 M1 o) z3 z5 z6 z7 z8 z9 z10
set_option maxRecDepth 8000 in
set_option maxHeartbeats 4000000 in
theorem ms_219_j58 {L : Nat} {xs : Nat → Int32} {d : Nat} (hd : 5 ≤ d) {v1 : Int32} {v2 : Int32} {M : mm_M} {q : (Unit ⊕ Nat) × mm_M} {o : mm_E} (h : mf_219_j58 v1 v2 M = some q) (hA : mm_A (mm_Kr mm_wv) q o) : mp_219_58 L xs d v1 v2 M o := by
  unfold mf_219_j58 at h
  obtain ⟨d, rfl⟩ := mm_d1 (n := 4) hd
  intro z3 z4 z5 z6 z7 z8 z9 z10
  show mm_Runs L xs (d + 1) 219 (58, [some (.ref 84), some (.int v1), some (.int v2), z3, z4, z5, z6, z7, z8, z9, z10], [], M) o
  refine mm_Runs.seq (l := [(58, .aload_n 0, 1)]) (S2 := (59, [some (.ref 84), some (.int v1), some (.int v2), z3, z4, z5, z6, z7, z8, z9, z10], [.ref 84], M)) (by decide +kernel) (hO := mm_own_219) rfl ?_
  refine mm_R_call (v := mm_wi) h hA (k2 := 191) (as := [.ref 84]) (r := []) rfl (fun _ => rfl) (fun q hq o ho => ms_191 (by omega) hq ho) (fun r1 M2 h => ?_)
  show mm_Runs L xs (d + 1) 219 (62, [some (.ref 84), some (.int v1), some (.int v2), z3, z4, z5, z6, z7, z8, z9, z10], [.int r1], M2) o
  refine mm_Runs.seq (l := [(62, .istore_n 3, 1), (63, .iload_n 3, 1), (64, .iconst 4, 1), (65, .ishr, 1), (66, .bipush 7, 2), (68, .iand, 1), (69, .istore 4, 2), (71, .aload_n 0, 1), (72, .getfield 154, 3)]) (S2 := (75, [some (.ref 84), some (.int v1), some (.int v2), some (.int r1), some (.int ((mm_shr r1 (4 : Int32)) &&& (7 : Int32))), z5, z6, z7, z8, z9, z10], [.int (M2.1 84 7)], M2)) (by decide +kernel) (hO := mm_own_219) rfl ?_
  refine mm_R_zne (t := 96) rfl rfl rfl (fun hc => ?_) (fun hc => ?_)
  · replace h := mm_ip hc h
    refine mm_Runs.seq (l := [(78, .iload_n 3, 1), (79, .sipush 143, 3), (82, .iand, 1)]) (S2 := (83, [some (.ref 84), some (.int v1), some (.int v2), some (.int r1), some (.int ((mm_shr r1 (4 : Int32)) &&& (7 : Int32))), z5, z6, z7, z8, z9, z10], [.int (r1 &&& (143 : Int32))], M2)) (by decide +kernel) (hO := mm_own_219) rfl ?_
    refine mm_R_zne (t := 92) rfl rfl rfl (fun hc => ?_) (fun hc => ?_)
    · replace h := mm_ip hc h
      refine mm_Runs.seq (l := [(86, .iload 4, 2), (88, .iconst 4, 1)]) (S2 := (89, [some (.ref 84), some (.int v1), some (.int v2), some (.int r1), some (.int ((mm_shr r1 (4 : Int32)) &&& (7 : Int32))), z5, z6, z7, z8, z9, z10], [.int (4 : Int32), .int ((mm_shr r1 (4 : Int32)) &&& (7 : Int32))], M2)) (by decide +kernel) (hO := mm_own_219) rfl ?_
      refine mm_R_ige (t := 96) rfl rfl rfl (fun hc => ?_) (fun hc => ?_)
      · replace h := mm_ip hc h
        exact (ms_219_j92 hd h hA : mp_219_92 L xs (d + 1) v1 v2 ((mm_shr r1 (4 : Int32)) &&& (7 : Int32)) M2 o) (some (.int r1)) z5 z6 z7 z8 z9 z10
      · replace h := mm_iq hc h
        exact (ms_219_j96 hd h hA : mp_219_96 L xs (d + 1) v1 v2 ((mm_shr r1 (4 : Int32)) &&& (7 : Int32)) M2 o) (some (.int r1)) z5 z6 z7 z8 z9 z10
    · replace h := mm_iq hc h
      exact (ms_219_j92 hd h hA : mp_219_92 L xs (d + 1) v1 v2 ((mm_shr r1 (4 : Int32)) &&& (7 : Int32)) M2 o) (some (.int r1)) z5 z6 z7 z8 z9 z10
  · replace h := mm_iq hc h
    exact (ms_219_j96 hd h hA : mp_219_96 L xs (d + 1) v1 v2 ((mm_shr r1 (4 : Int32)) &&& (7 : Int32)) M2 o) (some (.int r1)) z5 z6 z7 z8 z9 z10
def mp_219_54 (L : Nat) (xs : Nat → Int32) (d : Nat) (v1 : Int32) (v2 : Int32) (M : mm_M) (o : mm_E) : Prop := ∀ z3 z4 z5 z6 z7 z8 z9 z10 : Option Value, mm_Runs L xs d 219 (54, [some (.ref 84), some (.int v1), some (.int v2), z3, z4, z5, z6, z7, z8, z9, z10], [], M) o
set_option maxRecDepth 8000 in
set_option maxHeartbeats 4000000 in
theorem ms_219_j54 {L : Nat} {xs : Nat → Int32} {d : Nat} (hd : 5 ≤ d) {v1 : Int32} {v2 : Int32} {M : mm_M} {q : (Unit ⊕ Nat) × mm_M} {o : mm_E} (h : mf_219_j54 v1 v2 M = some q) (hA : mm_A (mm_Kr mm_wv) q o) : mp_219_54 L xs d v1 v2 M o := by
  unfold mf_219_j54 at h
  obtain ⟨d, rfl⟩ := mm_d1 (n := 4) hd
  intro z3 z4 z5 z6 z7 z8 z9 z10
  show mm_Runs L xs (d + 1) 219 (54, [some (.ref 84), some (.int v1), some (.int v2), z3, z4, z5, z6, z7, z8, z9, z10], [], M) o
  refine mm_Runs.seq (l := [(54, .aload_n 0, 1)]) (S2 := (55, [some (.ref 84), some (.int v1), some (.int v2), z3, z4, z5, z6, z7, z8, z9, z10], [.ref 84], M)) (by decide +kernel) (hO := mm_own_219) rfl ?_
  refine mm_R_call (v := mm_wv) h hA (k2 := 190) (as := [.ref 84]) (r := []) rfl (fun _ => rfl) (fun q hq o ho => ms_190 (by omega) hq ho) (fun _ M1 h => ?_)
  show mm_Runs L xs (d + 1) 219 (58, [some (.ref 84), some (.int v1), some (.int v2), z3, z4, z5, z6, z7, z8, z9, z10], [], M1) o
  exact (ms_219_j58 hd h hA : mp_219_58 L xs (d + 1) v1 v2 M1 o) z3 z4 z5 z6 z7 z8 z9 z10
set_option maxRecDepth 8000 in
set_option maxHeartbeats 4000000 in
theorem ms_219 {L : Nat} {xs : Nat → Int32} {d : Nat} (hd : 5 ≤ d) {M : mm_M} {q : (Unit ⊕ Nat) × mm_M} {o : mm_E} (h : mf_219 M = some q) (hA : mm_A (mm_Kr mm_wv) q o) : mm_Runs L xs d 219 (0, mm_ent (mm_ml 219) [.ref 84], [], M) o := by
  unfold mf_219 at h
  obtain ⟨d, rfl⟩ := mm_d1 (n := 4) hd
  show mm_Runs L xs (d + 1) 219 (0, [some (.ref 84), none, none, none, none, none, none, none, none, none, none], [], M) o
  refine mm_Runs.seq (l := [(0, .aload_n 0, 1), (1, .iconst 4, 1)]) (S2 := (2, [some (.ref 84), none, none, none, none, none, none, none, none, none, none], [.int (4 : Int32), .ref 84], M)) (by decide +kernel) (hO := mm_own_219) rfl ?_
  refine mm_R_call (v := mm_wv) h hA (k2 := 192) (as := [.ref 84, .int (4 : Int32)]) (r := []) rfl (fun _ => rfl) (fun q hq o ho => ms_192 (by omega) hq ho) (fun _ M1 h => ?_)
  show mm_Runs L xs (d + 1) 219 (5, [some (.ref 84), none, none, none, none, none, none, none, none, none, none], [], M1) o
  refine mm_Runs.seq (l := [(5, .aload_n 0, 1), (6, .bipush 34, 2)]) (S2 := (8, [some (.ref 84), none, none, none, none, none, none, none, none, none, none], [.int (34 : Int32), .ref 84], M1)) (by decide +kernel) (hO := mm_own_219) rfl ?_
  refine mm_R_call (v := mm_wv) h hA (k2 := 192) (as := [.ref 84, .int (34 : Int32)]) (r := []) rfl (fun _ => rfl) (fun q hq o ho => ms_192 (by omega) hq ho) (fun _ M2 h => ?_)
  show mm_Runs L xs (d + 1) 219 (11, [some (.ref 84), none, none, none, none, none, none, none, none, none, none], [], M2) o
  refine mm_Runs.seq (l := [(11, .aload_n 0, 1), (12, .bipush 77, 2)]) (S2 := (14, [some (.ref 84), none, none, none, none, none, none, none, none, none, none], [.int (77 : Int32), .ref 84], M2)) (by decide +kernel) (hO := mm_own_219) rfl ?_
  refine mm_R_call (v := mm_wv) h hA (k2 := 192) (as := [.ref 84, .int (77 : Int32)]) (r := []) rfl (fun _ => rfl) (fun q hq o ho => ms_192 (by omega) hq ho) (fun _ M3 h => ?_)
  show mm_Runs L xs (d + 1) 219 (17, [some (.ref 84), none, none, none, none, none, none, none, none, none, none], [], M3) o
  refine mm_Runs.seq (l := [(17, .aload_n 0, 1), (18, .bipush 24, 2)]) (S2 := (20, [some (.ref 84), none, none, none, none, none, none, none, none, none, none], [.int (24 : Int32), .ref 84], M3)) (by decide +kernel) (hO := mm_own_219) rfl ?_
  refine mm_R_call (v := mm_wv) h hA (k2 := 192) (as := [.ref 84, .int (24 : Int32)]) (r := []) rfl (fun _ => rfl) (fun q hq o ho => ms_192 (by omega) hq ho) (fun _ M4 h => ?_)
  show mm_Runs L xs (d + 1) 219 (23, [some (.ref 84), none, none, none, none, none, none, none, none, none, none], [], M4) o
  refine mm_Runs.seq (l := [(23, .aload_n 0, 1), (24, .getfield 101, 3), (27, .istore_n 1, 1), (28, .aload_n 0, 1)]) (S2 := (29, [some (.ref 84), some (.int (M4.1 84 5)), none, none, none, none, none, none, none, none, none], [.ref 84], M4)) (by decide +kernel) (hO := mm_own_219) rfl ?_
  refine mm_R_call (v := mm_wi) h hA (k2 := 191) (as := [.ref 84]) (r := []) rfl (fun _ => rfl) (fun q hq o ho => ms_191 (by omega) hq ho) (fun r5 M6 h => ?_)
  show mm_Runs L xs (d + 1) 219 (32, [some (.ref 84), some (.int (M4.1 84 5)), none, none, none, none, none, none, none, none, none], [.int r5], M6) o
  refine mm_Runs.seq (l := [(32, .istore_n 2, 1), (33, .aload_n 0, 1), (34, .getfield 154, 3)]) (S2 := (37, [some (.ref 84), some (.int (M4.1 84 5)), some (.int r5), none, none, none, none, none, none, none, none], [.int (M6.1 84 7)], M6)) (by decide +kernel) (hO := mm_own_219) rfl ?_
  refine mm_R_zne (t := 58) rfl rfl rfl (fun hc => ?_) (fun hc => ?_)
  · replace h := mm_ip hc h
    refine mm_Runs.seq (l := [(40, .iload_n 2, 1), (41, .bipush 6, 2), (43, .ishr, 1), (44, .iconst 1, 1)]) (S2 := (45, [some (.ref 84), some (.int (M4.1 84 5)), some (.int r5), none, none, none, none, none, none, none, none], [.int (1 : Int32), .int (mm_shr r5 (6 : Int32))], M6)) (by decide +kernel) (hO := mm_own_219) rfl ?_
    refine mm_R_ine (t := 54) rfl rfl rfl (fun hc => ?_) (fun hc => ?_)
    · replace h := mm_ip hc h
      refine mm_Runs.seq (l := [(48, .iload_n 2, 1), (49, .iconst 3, 1), (50, .iand, 1)]) (S2 := (51, [some (.ref 84), some (.int (M4.1 84 5)), some (.int r5), none, none, none, none, none, none, none, none], [.int (r5 &&& (3 : Int32))], M6)) (by decide +kernel) (hO := mm_own_219) rfl ?_
      refine mm_R_zeq (t := 58) rfl rfl rfl (fun hc => ?_) (fun hc => ?_)
      · replace h := mm_ip hc h
        exact (ms_219_j58 hd h hA : mp_219_58 L xs (d + 1) (M4.1 84 5) r5 M6 o) none none none none none none none none
      · replace h := mm_iq hc h
        exact (ms_219_j54 hd h hA : mp_219_54 L xs (d + 1) (M4.1 84 5) r5 M6 o) none none none none none none none none
    · replace h := mm_iq hc h
      exact (ms_219_j54 hd h hA : mp_219_54 L xs (d + 1) (M4.1 84 5) r5 M6 o) none none none none none none none none
  · replace h := mm_iq hc h
    exact (ms_219_j58 hd h hA : mp_219_58 L xs (d + 1) (M4.1 84 5) r5 M6 o) none none none none none none none none
