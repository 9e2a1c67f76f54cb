/-! MEANINGS 7 -/
-- 33: PlainPacks.lowWord([II)I (depth 0)
theorem mm_own_33 : mm_own 33 = 0 := rfl
noncomputable def mf_33 (p : Nat) (n : Nat) (v1 : Int32) (M : mm_M) : mm_O Int32 := if mm_in v1 n then if mm_in (v1 + (1 : Int32)) n then if mm_in (v1 + (2 : Int32)) n then if mm_in (v1 + (3 : Int32)) n then some (.inl ((((M.1 p v1.toNatClampNeg) ||| (mm_shl (M.1 p (v1 + (1 : Int32)).toNatClampNeg) (8 : Int32))) ||| (mm_shl (M.1 p (v1 + (2 : Int32)).toNatClampNeg) (16 : Int32))) ||| (mm_shl (M.1 p (v1 + (3 : Int32)).toNatClampNeg) (24 : Int32))), M) else none else none else none else none
set_option maxRecDepth 8000 in
set_option maxHeartbeats 4000000 in
theorem ms_33 {L : Nat} {xs : Nat → Int32} {p : Nat} {n : Nat} {d : Nat} (ha : mm_aat 0 p = some n) (hd : 0 ≤ d) {v1 : Int32} {M : mm_M} {q : (Int32 ⊕ Nat) × mm_M} {o : mm_E} (h : mf_33 p n v1 M = some q) (hA : mm_A (mm_Kr mm_wi) q o) : mm_Runs L xs d 33 (0, mm_ent (mm_ml 33) [.ref p, .int v1], [], M) o := by
  unfold mf_33 at h
  show mm_Runs L xs (d) 33 (0, [some (.ref p), some (.int v1)], [], M) o
  refine mm_Runs.seq (l := [(0, .aload_n 0, 1), (1, .iload_n 1, 1)]) (S2 := (2, [some (.ref p), some (.int v1)], [.int v1, .ref p], M)) (by decide +kernel) (hO := mm_own_33) rfl ?_
  obtain ⟨hb, h⟩ := mm_gd h
  refine mm_R_iald rfl ha hb ?_
  refine mm_Runs.seq (l := [(3, .aload_n 0, 1), (4, .iload_n 1, 1), (5, .iconst 1, 1), (6, .iadd, 1)]) (S2 := (7, [some (.ref p), some (.int v1)], [.int (v1 + (1 : Int32)), .ref p, .int (M.1 p v1.toNatClampNeg)], M)) (by decide +kernel) (hO := mm_own_33) rfl ?_
  obtain ⟨hb, h⟩ := mm_gd h
  refine mm_R_iald rfl ha hb ?_
  refine mm_Runs.seq (l := [(8, .bipush 8, 2), (10, .ishl, 1), (11, .ior, 1), (12, .aload_n 0, 1), (13, .iload_n 1, 1), (14, .iconst 2, 1), (15, .iadd, 1)]) (S2 := (16, [some (.ref p), some (.int v1)], [.int (v1 + (2 : Int32)), .ref p, .int ((M.1 p v1.toNatClampNeg) ||| (mm_shl (M.1 p (v1 + (1 : Int32)).toNatClampNeg) (8 : Int32)))], M)) (by decide +kernel) (hO := mm_own_33) rfl ?_
  obtain ⟨hb, h⟩ := mm_gd h
  refine mm_R_iald rfl ha hb ?_
  refine mm_Runs.seq (l := [(17, .bipush 16, 2), (19, .ishl, 1), (20, .ior, 1), (21, .aload_n 0, 1), (22, .iload_n 1, 1), (23, .iconst 3, 1), (24, .iadd, 1)]) (S2 := (25, [some (.ref p), some (.int v1)], [.int (v1 + (3 : Int32)), .ref p, .int (((M.1 p v1.toNatClampNeg) ||| (mm_shl (M.1 p (v1 + (1 : Int32)).toNatClampNeg) (8 : Int32))) ||| (mm_shl (M.1 p (v1 + (2 : Int32)).toNatClampNeg) (16 : Int32)))], M)) (by decide +kernel) (hO := mm_own_33) rfl ?_
  obtain ⟨hb, h⟩ := mm_gd h
  refine mm_R_iald rfl ha hb ?_
  refine mm_Runs.seq (l := [(26, .bipush 24, 2), (28, .ishl, 1), (29, .ior, 1)]) (S2 := (30, [some (.ref p), some (.int v1)], [.int ((((M.1 p v1.toNatClampNeg) ||| (mm_shl (M.1 p (v1 + (1 : Int32)).toNatClampNeg) (8 : Int32))) ||| (mm_shl (M.1 p (v1 + (2 : Int32)).toNatClampNeg) (16 : Int32))) ||| (mm_shl (M.1 p (v1 + (3 : Int32)).toNatClampNeg) (24 : Int32)))], M)) (by decide +kernel) (hO := mm_own_33) rfl ?_
  cases h
  exact mm_R_reti rfl rfl hA
-- 32: PlainPacks.turnedLeft(II)I (depth 0)
theorem mm_own_32 : mm_own 32 = 0 := rfl
noncomputable def mf_32 (v0 : Int32) (v1 : Int32) (M : mm_M) : mm_O Int32 := some (.inl ((mm_shl v0 v1) ||| (mm_ush v0 ((32 : Int32) - v1))), M)
set_option maxRecDepth 8000 in
set_option maxHeartbeats 4000000 in
theorem ms_32 {L : Nat} {xs : Nat → Int32} {d : Nat} (hd : 0 ≤ d) {v0 : Int32} {v1 : Int32} {M : mm_M} {q : (Int32 ⊕ Nat) × mm_M} {o : mm_E} (h : mf_32 v0 v1 M = some q) (hA : mm_A (mm_Kr mm_wi) q o) : mm_Runs L xs d 32 (0, mm_ent (mm_ml 32) [.int v0, .int v1], [], M) o := by
  unfold mf_32 at h
  show mm_Runs L xs (d) 32 (0, [some (.int v0), some (.int v1)], [], M) o
  refine mm_Runs.seq (l := [(0, .iload_n 0, 1), (1, .iload_n 1, 1), (2, .ishl, 1), (3, .iload_n 0, 1), (4, .bipush 32, 2), (6, .iload_n 1, 1), (7, .isub, 1), (8, .iushr, 1), (9, .ior, 1)]) (S2 := (10, [some (.int v0), some (.int v1)], [.int ((mm_shl v0 v1) ||| (mm_ush v0 ((32 : Int32) - v1)))], M)) (by decide +kernel) (hO := mm_own_32) rfl ?_
  cases h
  exact mm_R_reti rfl rfl hA
-- 31: PlainPacks.xxOf([III)I (depth 1)
theorem mm_own_31 : mm_own 31 = 0 := rfl
def mp_31_187 (L : Nat) (xs : Nat → Int32) (p : Nat) (n : Nat) (d : Nat) (v2 : Int32) (v3 : Int32) (v4 : Int32) (M : mm_M) (o : mm_E) : Prop := ∀ z1 z5 z6 z7 z8 : Option Value, mm_Runs L xs d 31 (187, [some (.ref p), z1, some (.int v2), some (.int v3), some (.int v4), z5, z6, z7, z8], [], M) o
def mp_31_223 (L : Nat) (xs : Nat → Int32) (p : Nat) (n : Nat) (d : Nat) (v2 : Int32) (v3 : Int32) (v4 : Int32) (M : mm_M) (o : mm_E) : Prop := ∀ z1 z5 z6 z7 z8 : Option Value, mm_Runs L xs d 31 (223, [some (.ref p), z1, some (.int v2), some (.int v3), some (.int v4), z5, z6, z7, z8], [], M) o
noncomputable def mf_31_b187 (p : Nat) (n : Nat) (v2 : Int32) (v3 : Int32) (v4 : Int32) (M : mm_M) : mm_O ((Int32 × Int32) ⊕ (Int32 × Int32)) := if v2 < (v3 + (4 : Int32)) then (some (.inl (.inr (v3, v4)), M)) else (mm_B (mf_33 p n v3 M) (fun r1 M2 => mm_B (mf_32 (v4 + (r1 * (-1028477379 : Int32))) (17 : Int32) M2) (fun r3 M4 => some (.inl (.inl ((v3 + (4 : Int32)), (r3 * (668265263 : Int32)))), M4))))
noncomputable def mf_31_L187 (p : Nat) (n : Nat) (v2 : Int32) (s : Int32 × Int32) (M : mm_M) : mm_O (Int32 × Int32) := mm_L (fun s M => mf_31_b187 p n v2 s.1 s.2 M) s M
set_option maxRecDepth 8000 in
set_option maxHeartbeats 4000000 in
theorem ms_31_b187 {L : Nat} {xs : Nat → Int32} {p : Nat} {n : Nat} {d : Nat} (ha : mm_aat 0 p = some n) (hd : 1 ≤ d) {v2 : Int32} {v3 : Int32} {v4 : Int32} {M : mm_M} {q : (((Int32 × Int32) ⊕ (Int32 × Int32)) ⊕ Nat) × mm_M} {o : mm_E} (h : mf_31_b187 p n v2 v3 v4 M = some q) (hA : mm_A (mm_K2 (fun s M o => mp_31_187 L xs p n (d) v2 s.1 s.2 M o) (fun r M o => mp_31_223 L xs p n (d) v2 r.1 r.2 M o)) q o) : mp_31_187 L xs p n d v2 v3 v4 M o := by
  unfold mf_31_b187 at h
  obtain ⟨d, rfl⟩ := mm_d1 (n := 0) hd
  intro z1 z5 z6 z7 z8
  show mm_Runs L xs (d + 1) 31 (187, [some (.ref p), z1, some (.int v2), some (.int v3), some (.int v4), z5, z6, z7, z8], [], M) o
  refine mm_Runs.seq (l := [(187, .iload_n 3, 1), (188, .iconst 4, 1), (189, .iadd, 1), (190, .iload_n 2, 1)]) (S2 := (191, [some (.ref p), z1, some (.int v2), some (.int v3), some (.int v4), z5, z6, z7, z8], [.int v2, .int (v3 + (4 : Int32))], M)) (by decide +kernel) (hO := mm_own_31) rfl ?_
  refine mm_R_igt (t := 223) rfl rfl rfl (fun hc => ?_) (fun hc => ?_)
  · replace h := mm_ip hc h
    cases h
    exact (show mp_31_223 L xs p n (d + 1) v2 v3 v4 M o from hA) z1 z5 z6 z7 z8
  · replace h := mm_iq hc h
    refine mm_Runs.seq (l := [(194, .iload 4, 2), (196, .aload_n 0, 1), (197, .iload_n 3, 1)]) (S2 := (198, [some (.ref p), z1, some (.int v2), some (.int v3), some (.int v4), z5, z6, z7, z8], [.int v3, .ref p, .int v4], M)) (by decide +kernel) (hO := mm_own_31) rfl ?_
    refine mm_R_call (v := mm_wi) h hA (k2 := 33) (as := [.ref p, .int v3]) (r := [.int v4]) rfl (fun _ => rfl) (fun q hq o ho => ms_33 ha (by omega) hq ho) (fun r1 M2 h => ?_)
    show mm_Runs L xs (d + 1) 31 (201, [some (.ref p), z1, some (.int v2), some (.int v3), some (.int v4), z5, z6, z7, z8], [.int r1, .int v4], M2) o
    refine mm_Runs.seq (l := [(201, .ldc_w 299, 3), (204, .imul, 1), (205, .iadd, 1), (206, .bipush 17, 2)]) (S2 := (208, [some (.ref p), z1, some (.int v2), some (.int v3), some (.int v4), z5, z6, z7, z8], [.int (17 : Int32), .int (v4 + (r1 * (-1028477379 : Int32)))], M2)) (by decide +kernel) (hO := mm_own_31) rfl ?_
    refine mm_R_call (v := mm_wi) h hA (k2 := 32) (as := [.int (v4 + (r1 * (-1028477379 : Int32))), .int (17 : Int32)]) (r := []) rfl (fun _ => rfl) (fun q hq o ho => ms_32 (by omega) hq ho) (fun r3 M4 h => ?_)
    show mm_Runs L xs (d + 1) 31 (211, [some (.ref p), z1, some (.int v2), some (.int v3), some (.int v4), z5, z6, z7, z8], [.int r3], M4) o
    refine mm_Runs.seq (l := [(211, .ldc_w 300, 3), (214, .imul, 1), (215, .istore 4, 2), (217, .iinc 3 4, 3), (220, .goto (-33), 3)]) (S2 := (187, [some (.ref p), z1, some (.int v2), some (.int (v3 + (4 : Int32))), some (.int (r3 * (668265263 : Int32))), z5, z6, z7, z8], [], M4)) (by decide +kernel) (hO := mm_own_31) rfl ?_
    cases h
    exact (show mp_31_187 L xs p n (d + 1) v2 (v3 + (4 : Int32)) (r3 * (668265263 : Int32)) M4 o from hA) z1 z5 z6 z7 z8
theorem ms_31_L187 {L : Nat} {xs : Nat → Int32} {p : Nat} {n : Nat} {d : Nat} (ha : mm_aat 0 p = some n) (hd : 1 ≤ d) {v2 : Int32} {v3 : Int32} {v4 : Int32} {β : Type} {K : β → mm_M → mm_E → Prop} {F : (Int32 × Int32) → mm_M → mm_O β} {M : mm_M} {q : (β ⊕ Nat) × mm_M} {o : mm_E} (h : mm_B (mf_31_L187 p n v2 (v3, v4) M) F = some q) (hA : mm_A K q o) (hx : ∀ (r : (Int32 × Int32)) (M2 : mm_M), F r M2 = some q → (fun r M o => mp_31_223 L xs p n (d) v2 r.1 r.2 M o) r M2 o) : mp_31_187 L xs p n d v2 v3 v4 M o := mm_R_loop (s := (v3, v4)) (M := M) (P := (fun s M o => mp_31_187 L xs p n (d) v2 s.1 s.2 M o)) (X := (fun r M o => mp_31_223 L xs p n (d) v2 r.1 r.2 M o)) h hA (fun s M q hq hA => ms_31_b187 ha hd hq hA) hx
def mp_31_255 (L : Nat) (xs : Nat → Int32) (p : Nat) (n : Nat) (d : Nat) (v4 : Int32) (M : mm_M) (o : mm_E) : Prop := ∀ z0 z1 z2 z3 z5 z6 z7 z8 : Option Value, mm_Runs L xs d 31 (255, [z0, z1, z2, z3, some (.int v4), z5, z6, z7, z8], [], M) o
noncomputable def mf_31_b223 (p : Nat) (n : Nat) (v2 : Int32) (v3 : Int32) (v4 : Int32) (M : mm_M) : mm_O ((Int32 × Int32) ⊕ (Int32)) := if v3 < v2 then (if mm_in v3 n then mm_B (mf_32 (v4 + ((M.1 p v3.toNatClampNeg) * (374761393 : Int32))) (11 : Int32) M) (fun r1 M2 => some (.inl (.inl ((v3 + (1 : Int32)), (r1 * (-1640531535 : Int32)))), M2)) else none) else (some (.inl (.inr v4), M))
noncomputable def mf_31_L223 (p : Nat) (n : Nat) (v2 : Int32) (s : Int32 × Int32) (M : mm_M) : mm_O (Int32) := mm_L (fun s M => mf_31_b223 p n v2 s.1 s.2 M) s M
set_option maxRecDepth 8000 in
set_option maxHeartbeats 4000000 in
theorem ms_31_b223 {L : Nat} {xs : Nat → Int32} {p : Nat} {n : Nat} {d : Nat} (ha : mm_aat 0 p = some n) (hd : 1 ≤ d) {v2 : Int32} {v3 : Int32} {v4 : Int32} {M : mm_M} {q : (((Int32 × Int32) ⊕ (Int32)) ⊕ Nat) × mm_M} {o : mm_E} (h : mf_31_b223 p n v2 v3 v4 M = some q) (hA : mm_A (mm_K2 (fun s M o => mp_31_223 L xs p n (d) v2 s.1 s.2 M o) (fun r M o => mp_31_255 L xs p n (d) r M o)) q o) : mp_31_223 L xs p n d v2 v3 v4 M o := by
  unfold mf_31_b223 at h
  obtain ⟨d, rfl⟩ := mm_d1 (n := 0) hd
  intro z1 z5 z6 z7 z8
  show mm_Runs L xs (d + 1) 31 (223, [some (.ref p), z1, some (.int v2), some (.int v3), some (.int v4), z5, z6, z7, z8], [], M) o
  refine mm_Runs.seq (l := [(223, .iload_n 3, 1), (224, .iload_n 2, 1)]) (S2 := (225, [some (.ref p), z1, some (.int v2), some (.int v3), some (.int v4), z5, z6, z7, z8], [.int v2, .int v3], M)) (by decide +kernel) (hO := mm_own_31) rfl ?_
  refine mm_R_ige (t := 255) rfl rfl rfl (fun hc => ?_) (fun hc => ?_)
  · replace h := mm_ip hc h
    refine mm_Runs.seq (l := [(228, .iload 4, 2), (230, .aload_n 0, 1), (231, .iload_n 3, 1)]) (S2 := (232, [some (.ref p), z1, some (.int v2), some (.int v3), some (.int v4), z5, z6, z7, z8], [.int v3, .ref p, .int v4], M)) (by decide +kernel) (hO := mm_own_31) rfl ?_
    obtain ⟨hb, h⟩ := mm_gd h
    refine mm_R_iald rfl ha hb ?_
    refine mm_Runs.seq (l := [(233, .ldc_w 286, 3), (236, .imul, 1), (237, .iadd, 1), (238, .bipush 11, 2)]) (S2 := (240, [some (.ref p), z1, some (.int v2), some (.int v3), some (.int v4), z5, z6, z7, z8], [.int (11 : Int32), .int (v4 + ((M.1 p v3.toNatClampNeg) * (374761393 : Int32)))], M)) (by decide +kernel) (hO := mm_own_31) rfl ?_
    refine mm_R_call (v := mm_wi) h hA (k2 := 32) (as := [.int (v4 + ((M.1 p v3.toNatClampNeg) * (374761393 : Int32))), .int (11 : Int32)]) (r := []) rfl (fun _ => rfl) (fun q hq o ho => ms_32 (by omega) hq ho) (fun r1 M2 h => ?_)
    show mm_Runs L xs (d + 1) 31 (243, [some (.ref p), z1, some (.int v2), some (.int v3), some (.int v4), z5, z6, z7, z8], [.int r1], M2) o
    refine mm_Runs.seq (l := [(243, .ldc_w 298, 3), (246, .imul, 1), (247, .istore 4, 2), (249, .iinc 3 1, 3), (252, .goto (-29), 3)]) (S2 := (223, [some (.ref p), z1, some (.int v2), some (.int (v3 + (1 : Int32))), some (.int (r1 * (-1640531535 : Int32))), z5, z6, z7, z8], [], M2)) (by decide +kernel) (hO := mm_own_31) rfl ?_
    cases h
    exact (show mp_31_223 L xs p n (d + 1) v2 (v3 + (1 : Int32)) (r1 * (-1640531535 : Int32)) M2 o from hA) z1 z5 z6 z7 z8
  · replace h := mm_iq hc h
    cases h
    exact (show mp_31_255 L xs p n (d + 1) v4 M o from hA) (some (.ref p)) z1 (some (.int v2)) (some (.int v3)) z5 z6 z7 z8
theorem ms_31_L223 {L : Nat} {xs : Nat → Int32} {p : Nat} {n : Nat} {d : Nat} (ha : mm_aat 0 p = some n) (hd : 1 ≤ d) {v2 : Int32} {v3 : Int32} {v4 : Int32} {β : Type} {K : β → mm_M → mm_E → Prop} {F : (Int32) → mm_M → mm_O β} {M : mm_M} {q : (β ⊕ Nat) × mm_M} {o : mm_E} (h : mm_B (mf_31_L223 p n v2 (v3, v4) M) F = some q) (hA : mm_A K q o) (hx : ∀ (r : (Int32)) (M2 : mm_M), F r M2 = some q → (fun r M o => mp_31_255 L xs p n (d) r M o) r M2 o) : mp_31_223 L xs p n d v2 v3 v4 M o := mm_R_loop (s := (v3, v4)) (M := M) (P := (fun s M o => mp_31_223 L xs p n (d) v2 s.1 s.2 M o)) (X := (fun r M o => mp_31_255 L xs p n (d) r M o)) h hA (fun s M q hq hA => ms_31_b223 ha hd hq hA) hx
noncomputable def mf_31_j255 (p : Nat) (n : Nat) (v4 : Int32) (M : mm_M) : mm_O Int32 := some (.inl (((((v4 ^^^ (mm_ush v4 (15 : Int32))) * (-2048144777 : Int32)) ^^^ (mm_ush ((v4 ^^^ (mm_ush v4 (15 : Int32))) * (-2048144777 : Int32)) (13 : Int32))) * (-1028477379 : Int32)) ^^^ (mm_ush ((((v4 ^^^ (mm_ush v4 (15 : Int32))) * (-2048144777 : Int32)) ^^^ (mm_ush ((v4 ^^^ (mm_ush v4 (15 : Int32))) * (-2048144777 : Int32)) (13 : Int32))) * (-1028477379 : Int32)) (16 : Int32))), M)
set_option maxRecDepth 8000 in
set_option maxHeartbeats 4000000 in
theorem ms_31_j255 {L : Nat} {xs : Nat → Int32} {p : Nat} {n : Nat} {d : Nat} (ha : mm_aat 0 p = some n) (hd : 1 ≤ d) {v4 : Int32} {M : mm_M} {q : (Int32 ⊕ Nat) × mm_M} {o : mm_E} (h : mf_31_j255 p n v4 M = some q) (hA : mm_A (mm_Kr mm_wi) q o) : mp_31_255 L xs p n d v4 M o := by
  unfold mf_31_j255 at h
  obtain ⟨d, rfl⟩ := mm_d1 (n := 0) hd
  intro z0 z1 z2 z3 z5 z6 z7 z8
  show mm_Runs L xs (d + 1) 31 (255, [z0, z1, z2, z3, some (.int v4), z5, z6, z7, z8], [], M) o
  refine mm_Runs.seq (l := [(255, .iload 4, 2), (257, .iload 4, 2), (259, .bipush 15, 2), (261, .iushr, 1), (262, .ixor, 1), (263, .ldc_w 288, 3), (266, .imul, 1), (267, .istore 4, 2), (269, .iload 4, 2), (271, .iload 4, 2), (273, .bipush 13, 2), (275, .iushr, 1), (276, .ixor, 1), (277, .ldc_w 299, 3), (280, .imul, 1), (281, .istore 4, 2), (283, .iload 4, 2), (285, .iload 4, 2), (287, .bipush 16, 2), (289, .iushr, 1), (290, .ixor, 1)]) (S2 := (291, [z0, z1, z2, (mm_no2 (mm_no2 z3)), some (.int ((((v4 ^^^ (mm_ush v4 (15 : Int32))) * (-2048144777 : Int32)) ^^^ (mm_ush ((v4 ^^^ (mm_ush v4 (15 : Int32))) * (-2048144777 : Int32)) (13 : Int32))) * (-1028477379 : Int32))), z5, z6, z7, z8], [.int (((((v4 ^^^ (mm_ush v4 (15 : Int32))) * (-2048144777 : Int32)) ^^^ (mm_ush ((v4 ^^^ (mm_ush v4 (15 : Int32))) * (-2048144777 : Int32)) (13 : Int32))) * (-1028477379 : Int32)) ^^^ (mm_ush ((((v4 ^^^ (mm_ush v4 (15 : Int32))) * (-2048144777 : Int32)) ^^^ (mm_ush ((v4 ^^^ (mm_ush v4 (15 : Int32))) * (-2048144777 : Int32)) (13 : Int32))) * (-1028477379 : Int32)) (16 : Int32)))], M)) (by decide +kernel) (hO := mm_own_31) rfl ?_
  cases h
  exact mm_R_reti rfl rfl hA
def mp_31_33 (L : Nat) (xs : Nat → Int32) (p : Nat) (n : Nat) (d : Nat) (v1 : Int32) (v2 : Int32) (v3 : Int32) (v5 : Int32) (v6 : Int32) (v7 : Int32) (v8 : Int32) (M : mm_M) (o : mm_E) : Prop := ∀ z4 : Option Value, mm_Runs L xs d 31 (33, [some (.ref p), some (.int v1), some (.int v2), some (.int v3), z4, some (.int v5), some (.int v6), some (.int v7), some (.int v8)], [], M) o
def mp_31_147 (L : Nat) (xs : Nat → Int32) (p : Nat) (n : Nat) (d : Nat) (v1 : Int32) (v2 : Int32) (v3 : Int32) (v5 : Int32) (v6 : Int32) (v7 : Int32) (v8 : Int32) (M : mm_M) (o : mm_E) : Prop := ∀ z4 : Option Value, mm_Runs L xs d 31 (147, [some (.ref p), some (.int v1), some (.int v2), some (.int v3), z4, some (.int v5), some (.int v6), some (.int v7), some (.int v8)], [], M) o
noncomputable def mf_31_b33 (p : Nat) (n : Nat) (v1 : Int32) (v2 : Int32) (v3 : Int32) (v5 : Int32) (v6 : Int32) (v7 : Int32) (v8 : Int32) (M : mm_M) : mm_O ((Int32 × Int32 × Int32 × Int32 × Int32) ⊕ (Int32 × Int32 × Int32 × Int32 × Int32)) := if v2 < (v3 + (16 : Int32)) then (some (.inl (.inr (v3, v5, v6, v7, v8)), M)) else (mm_B (mf_33 p n v3 M) (fun r1 M2 => mm_B (mf_32 (v5 + (r1 * (-2048144777 : Int32))) (13 : Int32) M2) (fun r3 M4 => mm_B (mf_33 p n (v3 + (4 : Int32)) M4) (fun r5 M6 => mm_B (mf_32 (v6 + (r5 * (-2048144777 : Int32))) (13 : Int32) M6) (fun r7 M8 => mm_B (mf_33 p n (v3 + (8 : Int32)) M8) (fun r9 M10 => mm_B (mf_32 (v7 + (r9 * (-2048144777 : Int32))) (13 : Int32) M10) (fun r11 M12 => mm_B (mf_33 p n (v3 + (12 : Int32)) M12) (fun r13 M14 => mm_B (mf_32 (v8 + (r13 * (-2048144777 : Int32))) (13 : Int32) M14) (fun r15 M16 => some (.inl (.inl ((v3 + (16 : Int32)), (r3 * (-1640531535 : Int32)), (r7 * (-1640531535 : Int32)), (r11 * (-1640531535 : Int32)), (r15 * (-1640531535 : Int32)))), M16))))))))))
noncomputable def mf_31_L33 (p : Nat) (n : Nat) (v1 : Int32) (v2 : Int32) (s : Int32 × Int32 × Int32 × Int32 × Int32) (M : mm_M) : mm_O (Int32 × Int32 × Int32 × Int32 × Int32) := mm_L (fun s M => mf_31_b33 p n v1 v2 s.1 s.2.1 s.2.2.1 s.2.2.2.1 s.2.2.2.2 M) s M
set_option maxRecDepth 8000 in
set_option maxHeartbeats 4000000 in
theorem ms_31_b33 {L : Nat} {xs : Nat → Int32} {p : Nat} {n : Nat} {d : Nat} (ha : mm_aat 0 p = some n) (hd : 1 ≤ d) {v1 : Int32} {v2 : Int32} {v3 : Int32} {v5 : Int32} {v6 : Int32} {v7 : Int32} {v8 : Int32} {M : mm_M} {q : (((Int32 × Int32 × Int32 × Int32 × Int32) ⊕ (Int32 × Int32 × Int32 × Int32 × Int32)) ⊕ Nat) × mm_M} {o : mm_E} (h : mf_31_b33 p n v1 v2 v3 v5 v6 v7 v8 M = some q) (hA : mm_A (mm_K2 (fun s M o => mp_31_33 L xs p n (d) v1 v2 s.1 s.2.1 s.2.2.1 s.2.2.2.1 s.2.2.2.2 M o) (fun r M o => mp_31_147 L xs p n (d) v1 v2 r.1 r.2.1 r.2.2.1 r.2.2.2.1 r.2.2.2.2 M o)) q o) : mp_31_33 L xs p n d v1 v2 v3 v5 v6 v7 v8 M o := by
  unfold mf_31_b33 at h
  obtain ⟨d, rfl⟩ := mm_d1 (n := 0) hd
  intro z4
  show mm_Runs L xs (d + 1) 31 (33, [some (.ref p), some (.int v1), some (.int v2), some (.int v3), z4, some (.int v5), some (.int v6), some (.int v7), some (.int v8)], [], M) o
  refine mm_Runs.seq (l := [(33, .iload_n 3, 1), (34, .bipush 16, 2), (36, .iadd, 1), (37, .iload_n 2, 1)]) (S2 := (38, [some (.ref p), some (.int v1), some (.int v2), some (.int v3), z4, some (.int v5), some (.int v6), some (.int v7), some (.int v8)], [.int v2, .int (v3 + (16 : Int32))], M)) (by decide +kernel) (hO := mm_own_31) rfl ?_
  refine mm_R_igt (t := 147) rfl rfl rfl (fun hc => ?_) (fun hc => ?_)
  · replace h := mm_ip hc h
    cases h
    exact (show mp_31_147 L xs p n (d + 1) v1 v2 v3 v5 v6 v7 v8 M o from hA) z4
  · replace h := mm_iq hc h
    refine mm_Runs.seq (l := [(41, .iload 5, 2), (43, .aload_n 0, 1), (44, .iload_n 3, 1)]) (S2 := (45, [some (.ref p), some (.int v1), some (.int v2), some (.int v3), z4, some (.int v5), some (.int v6), some (.int v7), some (.int v8)], [.int v3, .ref p, .int v5], M)) (by decide +kernel) (hO := mm_own_31) rfl ?_
    refine mm_R_call (v := mm_wi) h hA (k2 := 33) (as := [.ref p, .int v3]) (r := [.int v5]) rfl (fun _ => rfl) (fun q hq o ho => ms_33 ha (by omega) hq ho) (fun r1 M2 h => ?_)
    show mm_Runs L xs (d + 1) 31 (48, [some (.ref p), some (.int v1), some (.int v2), some (.int v3), z4, some (.int v5), some (.int v6), some (.int v7), some (.int v8)], [.int r1, .int v5], M2) o
    refine mm_Runs.seq (l := [(48, .ldc_w 288, 3), (51, .imul, 1), (52, .iadd, 1), (53, .bipush 13, 2)]) (S2 := (55, [some (.ref p), some (.int v1), some (.int v2), some (.int v3), z4, some (.int v5), some (.int v6), some (.int v7), some (.int v8)], [.int (13 : Int32), .int (v5 + (r1 * (-2048144777 : Int32)))], M2)) (by decide +kernel) (hO := mm_own_31) rfl ?_
    refine mm_R_call (v := mm_wi) h hA (k2 := 32) (as := [.int (v5 + (r1 * (-2048144777 : Int32))), .int (13 : Int32)]) (r := []) rfl (fun _ => rfl) (fun q hq o ho => ms_32 (by omega) hq ho) (fun r3 M4 h => ?_)
    show mm_Runs L xs (d + 1) 31 (58, [some (.ref p), some (.int v1), some (.int v2), some (.int v3), z4, some (.int v5), some (.int v6), some (.int v7), some (.int v8)], [.int r3], M4) o
    refine mm_Runs.seq (l := [(58, .ldc_w 298, 3), (61, .imul, 1), (62, .istore 5, 2), (64, .iload 6, 2), (66, .aload_n 0, 1), (67, .iload_n 3, 1), (68, .iconst 4, 1), (69, .iadd, 1)]) (S2 := (70, [some (.ref p), some (.int v1), some (.int v2), some (.int v3), (mm_no2 z4), some (.int (r3 * (-1640531535 : Int32))), some (.int v6), some (.int v7), some (.int v8)], [.int (v3 + (4 : Int32)), .ref p, .int v6], M4)) (by decide +kernel) (hO := mm_own_31) rfl ?_
    refine mm_R_call (v := mm_wi) h hA (k2 := 33) (as := [.ref p, .int (v3 + (4 : Int32))]) (r := [.int v6]) rfl (fun _ => rfl) (fun q hq o ho => ms_33 ha (by omega) hq ho) (fun r5 M6 h => ?_)
    show mm_Runs L xs (d + 1) 31 (73, [some (.ref p), some (.int v1), some (.int v2), some (.int v3), (mm_no2 z4), some (.int (r3 * (-1640531535 : Int32))), some (.int v6), some (.int v7), some (.int v8)], [.int r5, .int v6], M6) o
    refine mm_Runs.seq (l := [(73, .ldc_w 288, 3), (76, .imul, 1), (77, .iadd, 1), (78, .bipush 13, 2)]) (S2 := (80, [some (.ref p), some (.int v1), some (.int v2), some (.int v3), (mm_no2 z4), some (.int (r3 * (-1640531535 : Int32))), some (.int v6), some (.int v7), some (.int v8)], [.int (13 : Int32), .int (v6 + (r5 * (-2048144777 : Int32)))], M6)) (by decide +kernel) (hO := mm_own_31) rfl ?_
    refine mm_R_call (v := mm_wi) h hA (k2 := 32) (as := [.int (v6 + (r5 * (-2048144777 : Int32))), .int (13 : Int32)]) (r := []) rfl (fun _ => rfl) (fun q hq o ho => ms_32 (by omega) hq ho) (fun r7 M8 h => ?_)
    show mm_Runs L xs (d + 1) 31 (83, [some (.ref p), some (.int v1), some (.int v2), some (.int v3), (mm_no2 z4), some (.int (r3 * (-1640531535 : Int32))), some (.int v6), some (.int v7), some (.int v8)], [.int r7], M8) o
    refine mm_Runs.seq (l := [(83, .ldc_w 298, 3), (86, .imul, 1), (87, .istore 6, 2), (89, .iload 7, 2), (91, .aload_n 0, 1), (92, .iload_n 3, 1), (93, .bipush 8, 2), (95, .iadd, 1)]) (S2 := (96, [some (.ref p), some (.int v1), some (.int v2), some (.int v3), (mm_no2 z4), some (.int (r3 * (-1640531535 : Int32))), some (.int (r7 * (-1640531535 : Int32))), some (.int v7), some (.int v8)], [.int (v3 + (8 : Int32)), .ref p, .int v7], M8)) (by decide +kernel) (hO := mm_own_31) rfl ?_
    refine mm_R_call (v := mm_wi) h hA (k2 := 33) (as := [.ref p, .int (v3 + (8 : Int32))]) (r := [.int v7]) rfl (fun _ => rfl) (fun q hq o ho => ms_33 ha (by omega) hq ho) (fun r9 M10 h => ?_)
    show mm_Runs L xs (d + 1) 31 (99, [some (.ref p), some (.int v1), some (.int v2), some (.int v3), (mm_no2 z4), some (.int (r3 * (-1640531535 : Int32))), some (.int (r7 * (-1640531535 : Int32))), some (.int v7), some (.int v8)], [.int r9, .int v7], M10) o
    refine mm_Runs.seq (l := [(99, .ldc_w 288, 3), (102, .imul, 1), (103, .iadd, 1), (104, .bipush 13, 2)]) (S2 := (106, [some (.ref p), some (.int v1), some (.int v2), some (.int v3), (mm_no2 z4), some (.int (r3 * (-1640531535 : Int32))), some (.int (r7 * (-1640531535 : Int32))), some (.int v7), some (.int v8)], [.int (13 : Int32), .int (v7 + (r9 * (-2048144777 : Int32)))], M10)) (by decide +kernel) (hO := mm_own_31) rfl ?_
    refine mm_R_call (v := mm_wi) h hA (k2 := 32) (as := [.int (v7 + (r9 * (-2048144777 : Int32))), .int (13 : Int32)]) (r := []) rfl (fun _ => rfl) (fun q hq o ho => ms_32 (by omega) hq ho) (fun r11 M12 h => ?_)
    show mm_Runs L xs (d + 1) 31 (109, [some (.ref p), some (.int v1), some (.int v2), some (.int v3), (mm_no2 z4), some (.int (r3 * (-1640531535 : Int32))), some (.int (r7 * (-1640531535 : Int32))), some (.int v7), some (.int v8)], [.int r11], M12) o
    refine mm_Runs.seq (l := [(109, .ldc_w 298, 3), (112, .imul, 1), (113, .istore 7, 2), (115, .iload 8, 2), (117, .aload_n 0, 1), (118, .iload_n 3, 1), (119, .bipush 12, 2), (121, .iadd, 1)]) (S2 := (122, [some (.ref p), some (.int v1), some (.int v2), some (.int v3), (mm_no2 z4), some (.int (r3 * (-1640531535 : Int32))), some (.int (r7 * (-1640531535 : Int32))), some (.int (r11 * (-1640531535 : Int32))), some (.int v8)], [.int (v3 + (12 : Int32)), .ref p, .int v8], M12)) (by decide +kernel) (hO := mm_own_31) rfl ?_
    refine mm_R_call (v := mm_wi) h hA (k2 := 33) (as := [.ref p, .int (v3 + (12 : Int32))]) (r := [.int v8]) rfl (fun _ => rfl) (fun q hq o ho => ms_33 ha (by omega) hq ho) (fun r13 M14 h => ?_)
    show mm_Runs L xs (d + 1) 31 (125, [some (.ref p), some (.int v1), some (.int v2), some (.int v3), (mm_no2 z4), some (.int (r3 * (-1640531535 : Int32))), some (.int (r7 * (-1640531535 : Int32))), some (.int (r11 * (-1640531535 : Int32))), some (.int v8)], [.int r13, .int v8], M14) o
    refine mm_Runs.seq (l := [(125, .ldc_w 288, 3), (128, .imul, 1), (129, .iadd, 1), (130, .bipush 13, 2)]) (S2 := (132, [some (.ref p), some (.int v1), some (.int v2), some (.int v3), (mm_no2 z4), some (.int (r3 * (-1640531535 : Int32))), some (.int (r7 * (-1640531535 : Int32))), some (.int (r11 * (-1640531535 : Int32))), some (.int v8)], [.int (13 : Int32), .int (v8 + (r13 * (-2048144777 : Int32)))], M14)) (by decide +kernel) (hO := mm_own_31) rfl ?_
    refine mm_R_call (v := mm_wi) h hA (k2 := 32) (as := [.int (v8 + (r13 * (-2048144777 : Int32))), .int (13 : Int32)]) (r := []) rfl (fun _ => rfl) (fun q hq o ho => ms_32 (by omega) hq ho) (fun r15 M16 h => ?_)
    show mm_Runs L xs (d + 1) 31 (135, [some (.ref p), some (.int v1), some (.int v2), some (.int v3), (mm_no2 z4), some (.int (r3 * (-1640531535 : Int32))), some (.int (r7 * (-1640531535 : Int32))), some (.int (r11 * (-1640531535 : Int32))), some (.int v8)], [.int r15], M16) o
    refine mm_Runs.seq (l := [(135, .ldc_w 298, 3), (138, .imul, 1), (139, .istore 8, 2), (141, .iinc 3 16, 3), (144, .goto (-111), 3)]) (S2 := (33, [some (.ref p), some (.int v1), some (.int v2), some (.int (v3 + (16 : Int32))), (mm_no2 z4), some (.int (r3 * (-1640531535 : Int32))), some (.int (r7 * (-1640531535 : Int32))), some (.int (r11 * (-1640531535 : Int32))), some (.int (r15 * (-1640531535 : Int32)))], [], M16)) (by decide +kernel) (hO := mm_own_31) rfl ?_
    cases h
    exact (show mp_31_33 L xs p n (d + 1) v1 v2 (v3 + (16 : Int32)) (r3 * (-1640531535 : Int32)) (r7 * (-1640531535 : Int32)) (r11 * (-1640531535 : Int32)) (r15 * (-1640531535 : Int32)) M16 o from hA) ((mm_no2 z4))
theorem ms_31_L33 {L : Nat} {xs : Nat → Int32} {p : Nat} {n : Nat} {d : Nat} (ha : mm_aat 0 p = some n) (hd : 1 ≤ d) {v1 : Int32} {v2 : Int32} {v3 : Int32} {v5 : Int32} {v6 : Int32} {v7 : Int32} {v8 : Int32} {β : Type} {K : β → mm_M → mm_E → Prop} {F : (Int32 × Int32 × Int32 × Int32 × Int32) → mm_M → mm_O β} {M : mm_M} {q : (β ⊕ Nat) × mm_M} {o : mm_E} (h : mm_B (mf_31_L33 p n v1 v2 (v3, v5, v6, v7, v8) M) F = some q) (hA : mm_A K q o) (hx : ∀ (r : (Int32 × Int32 × Int32 × Int32 × Int32)) (M2 : mm_M), F r M2 = some q → (fun r M o => mp_31_147 L xs p n (d) v1 v2 r.1 r.2.1 r.2.2.1 r.2.2.2.1 r.2.2.2.2 M o) r M2 o) : mp_31_33 L xs p n d v1 v2 v3 v5 v6 v7 v8 M o := mm_R_loop (s := (v3, v5, v6, v7, v8)) (M := M) (P := (fun s M o => mp_31_33 L xs p n (d) v1 v2 s.1 s.2.1 s.2.2.1 s.2.2.2.1 s.2.2.2.2 M o)) (X := (fun r M o => mp_31_147 L xs p n (d) v1 v2 r.1 r.2.1 r.2.2.1 r.2.2.2.1 r.2.2.2.2 M o)) h hA (fun s M q hq hA => ms_31_b33 ha hd hq hA) hx
noncomputable def mf_31_j147 (p : Nat) (n : Nat) (v1 : Int32) (v2 : Int32) (v3 : Int32) (v5 : Int32) (v6 : Int32) (v7 : Int32) (v8 : Int32) (M : mm_M) : mm_O Int32 := mm_B (mf_32 v5 (1 : Int32) M) (fun r1 M2 => mm_B (mf_32 v6 (7 : Int32) M2) (fun r3 M4 => mm_B (mf_32 v7 (12 : Int32) M4) (fun r5 M6 => mm_B (mf_32 v8 (18 : Int32) M6) (fun r7 M8 => mm_B (mf_31_L187 p n v2 (v3, ((((r1 + r3) + r5) + r7) + (v2 - v1))) M8) (fun r10 M9 => mm_B (mf_31_L223 p n v2 (r10.1, r10.2) M9) (fun r17 M16 => mf_31_j255 p n r17 M16))))))
set_option maxRecDepth 8000 in
set_option maxHeartbeats 4000000 in
theorem ms_31_j147 {L : Nat} {xs : Nat → Int32} {p : Nat} {n : Nat} {d : Nat} (ha : mm_aat 0 p = some n) (hd : 1 ≤ d) {v1 : Int32} {v2 : Int32} {v3 : Int32} {v5 : Int32} {v6 : Int32} {v7 : Int32} {v8 : Int32} {M : mm_M} {q : (Int32 ⊕ Nat) × mm_M} {o : mm_E} (h : mf_31_j147 p n v1 v2 v3 v5 v6 v7 v8 M = some q) (hA : mm_A (mm_Kr mm_wi) q o) : mp_31_147 L xs p n d v1 v2 v3 v5 v6 v7 v8 M o := by
  unfold mf_31_j147 at h
  obtain ⟨d, rfl⟩ := mm_d1 (n := 0) hd
  intro z4
  show mm_Runs L xs (d + 1) 31 (147, [some (.ref p), some (.int v1), some (.int v2), some (.int v3), z4, some (.int v5), some (.int v6), some (.int v7), some (.int v8)], [], M) o
  refine mm_Runs.seq (l := [(147, .iload 5, 2), (149, .iconst 1, 1)]) (S2 := (150, [some (.ref p), some (.int v1), some (.int v2), some (.int v3), z4, some (.int v5), some (.int v6), some (.int v7), some (.int v8)], [.int (1 : Int32), .int v5], M)) (by decide +kernel) (hO := mm_own_31) rfl ?_
  refine mm_R_call (v := mm_wi) h hA (k2 := 32) (as := [.int v5, .int (1 : Int32)]) (r := []) rfl (fun _ => rfl) (fun q hq o ho => ms_32 (by omega) hq ho) (fun r1 M2 h => ?_)
  show mm_Runs L xs (d + 1) 31 (153, [some (.ref p), some (.int v1), some (.int v2), some (.int v3), z4, some (.int v5), some (.int v6), some (.int v7), some (.int v8)], [.int r1], M2) o
  refine mm_Runs.seq (l := [(153, .iload 6, 2), (155, .bipush 7, 2)]) (S2 := (157, [some (.ref p), some (.int v1), some (.int v2), some (.int v3), z4, some (.int v5), some (.int v6), some (.int v7), some (.int v8)], [.int (7 : Int32), .int v6, .int r1], M2)) (by decide +kernel) (hO := mm_own_31) rfl ?_
  refine mm_R_call (v := mm_wi) h hA (k2 := 32) (as := [.int v6, .int (7 : Int32)]) (r := [.int r1]) rfl (fun _ => rfl) (fun q hq o ho => ms_32 (by omega) hq ho) (fun r3 M4 h => ?_)
  show mm_Runs L xs (d + 1) 31 (160, [some (.ref p), some (.int v1), some (.int v2), some (.int v3), z4, some (.int v5), some (.int v6), some (.int v7), some (.int v8)], [.int r3, .int r1], M4) o
  refine mm_Runs.seq (l := [(160, .iadd, 1), (161, .iload 7, 2), (163, .bipush 12, 2)]) (S2 := (165, [some (.ref p), some (.int v1), some (.int v2), some (.int v3), z4, some (.int v5), some (.int v6), some (.int v7), some (.int v8)], [.int (12 : Int32), .int v7, .int (r1 + r3)], M4)) (by decide +kernel) (hO := mm_own_31) rfl ?_
  refine mm_R_call (v := mm_wi) h hA (k2 := 32) (as := [.int v7, .int (12 : Int32)]) (r := [.int (r1 + r3)]) rfl (fun _ => rfl) (fun q hq o ho => ms_32 (by omega) hq ho) (fun r5 M6 h => ?_)
  show mm_Runs L xs (d + 1) 31 (168, [some (.ref p), some (.int v1), some (.int v2), some (.int v3), z4, some (.int v5), some (.int v6), some (.int v7), some (.int v8)], [.int r5, .int (r1 + r3)], M6) o
  refine mm_Runs.seq (l := [(168, .iadd, 1), (169, .iload 8, 2), (171, .bipush 18, 2)]) (S2 := (173, [some (.ref p), some (.int v1), some (.int v2), some (.int v3), z4, some (.int v5), some (.int v6), some (.int v7), some (.int v8)], [.int (18 : Int32), .int v8, .int ((r1 + r3) + r5)], M6)) (by decide +kernel) (hO := mm_own_31) rfl ?_
  refine mm_R_call (v := mm_wi) h hA (k2 := 32) (as := [.int v8, .int (18 : Int32)]) (r := [.int ((r1 + r3) + r5)]) rfl (fun _ => rfl) (fun q hq o ho => ms_32 (by omega) hq ho) (fun r7 M8 h => ?_)
  show mm_Runs L xs (d + 1) 31 (176, [some (.ref p), some (.int v1), some (.int v2), some (.int v3), z4, some (.int v5), some (.int v6), some (.int v7), some (.int v8)], [.int r7, .int ((r1 + r3) + r5)], M8) o
  refine mm_Runs.seq (l := [(176, .iadd, 1), (177, .istore 4, 2), (179, .iload 4, 2), (181, .iload_n 2, 1), (182, .iload_n 1, 1), (183, .isub, 1), (184, .iadd, 1), (185, .istore 4, 2)]) (S2 := (187, [some (.ref p), some (.int v1), some (.int v2), some (.int v3), some (.int ((((r1 + r3) + r5) + r7) + (v2 - v1))), some (.int v5), some (.int v6), some (.int v7), some (.int v8)], [], M8)) (by decide +kernel) (hO := mm_own_31) rfl ?_
  have hp : mp_31_187 L xs p n (d + 1) v2 v3 ((((r1 + r3) + r5) + r7) + (v2 - v1)) M8 o := by
    refine ms_31_L187 ha hd h hA (fun r10 M9 h => ?_)
    intro y11 y12 y13 y14 y15
    show mm_Runs L xs (d + 1) 31 (223, [some (.ref p), y11, some (.int v2), some (.int r10.1), some (.int r10.2), y12, y13, y14, y15], [], M9) o
    have hp : mp_31_223 L xs p n (d + 1) v2 r10.1 r10.2 M9 o := by
      refine ms_31_L223 ha hd h hA (fun r17 M16 h => ?_)
      intro y18 y19 y20 y21 y22 y23 y24 y25
      show mm_Runs L xs (d + 1) 31 (255, [y18, y19, y20, y21, some (.int r17), y22, y23, y24, y25], [], M16) o
      exact (ms_31_j255 ha hd h hA : mp_31_255 L xs p n (d + 1) r17 M16 o) y18 y19 y20 y21 y22 y23 y24 y25
    exact hp y11 y12 y13 y14 y15
  exact hp (some (.int v1)) (some (.int v5)) (some (.int v6)) (some (.int v7)) (some (.int v8))
noncomputable def mf_31 (p : Nat) (n : Nat) (v1 : Int32) (v2 : Int32) (M : mm_M) : mm_O Int32 := if (v2 - v1) < (16 : Int32) then (mm_B (mf_31_L187 p n v2 (v1, ((374761393 : Int32) + (v2 - v1))) M) (fun r2 M1 => mm_B (mf_31_L223 p n v2 (r2.1, r2.2) M1) (fun r9 M8 => mf_31_j255 p n r9 M8))) else (mm_B (mf_31_L33 p n v1 v2 (v1, (606290984 : Int32), (-2048144777 : Int32), (0 : Int32), (1640531535 : Int32)) M) (fun r19 M18 => mf_31_j147 p n v1 v2 r19.1 r19.2.1 r19.2.2.1 r19.2.2.2.1 r19.2.2.2.2 M18))
set_option maxRecDepth 8000 in
set_option maxHeartbeats 4000000 in
theorem ms_31 {L : Nat} {xs : Nat → Int32} {p : Nat} {n : Nat} {d : Nat} (ha : mm_aat 0 p = some n) (hd : 1 ≤ d) {v1 : Int32} {v2 : Int32} {M : mm_M} {q : (Int32 ⊕ Nat) × mm_M} {o : mm_E} (h : mf_31 p n v1 v2 M = some q) (hA : mm_A (mm_Kr mm_wi) q o) : mm_Runs L xs d 31 (0, mm_ent (mm_ml 31) [.ref p, .int v1, .int v2], [], M) o := by
  unfold mf_31 at h
  obtain ⟨d, rfl⟩ := mm_d1 (n := 0) hd
  show mm_Runs L xs (d + 1) 31 (0, [some (.ref p), some (.int v1), some (.int v2), none, none, none, none, none, none], [], M) o
  refine mm_Runs.seq (l := [(0, .iload_n 1, 1), (1, .istore_n 3, 1), (2, .ldc_w 286, 3), (5, .istore 4, 2), (7, .iload_n 2, 1), (8, .iload_n 1, 1), (9, .isub, 1), (10, .bipush 16, 2)]) (S2 := (12, [some (.ref p), some (.int v1), some (.int v2), some (.int v1), some (.int (374761393 : Int32)), none, none, none, none], [.int (16 : Int32), .int (v2 - v1)], M)) (by decide +kernel) (hO := mm_own_31) rfl ?_
  refine mm_R_ilt (t := 179) rfl rfl rfl (fun hc => ?_) (fun hc => ?_)
  · replace h := mm_ip hc h
    refine mm_Runs.seq (l := [(179, .iload 4, 2), (181, .iload_n 2, 1), (182, .iload_n 1, 1), (183, .isub, 1), (184, .iadd, 1), (185, .istore 4, 2)]) (S2 := (187, [some (.ref p), some (.int v1), some (.int v2), some (.int v1), some (.int ((374761393 : Int32) + (v2 - v1))), none, none, none, none], [], M)) (by decide +kernel) (hO := mm_own_31) rfl ?_
    have hp : mp_31_187 L xs p n (d + 1) v2 v1 ((374761393 : Int32) + (v2 - v1)) M o := by
      refine ms_31_L187 ha hd h hA (fun r2 M1 h => ?_)
      intro y3 y4 y5 y6 y7
      show mm_Runs L xs (d + 1) 31 (223, [some (.ref p), y3, some (.int v2), some (.int r2.1), some (.int r2.2), y4, y5, y6, y7], [], M1) o
      have hp : mp_31_223 L xs p n (d + 1) v2 r2.1 r2.2 M1 o := by
        refine ms_31_L223 ha hd h hA (fun r9 M8 h => ?_)
        intro y10 y11 y12 y13 y14 y15 y16 y17
        show mm_Runs L xs (d + 1) 31 (255, [y10, y11, y12, y13, some (.int r9), y14, y15, y16, y17], [], M8) o
        exact (ms_31_j255 ha hd h hA : mp_31_255 L xs p n (d + 1) r9 M8 o) y10 y11 y12 y13 y14 y15 y16 y17
      exact hp y3 y4 y5 y6 y7
    exact hp (some (.int v1)) none none none none
  · replace h := mm_iq hc h
    refine mm_Runs.seq (l := [(15, .ldc_w 287, 3), (18, .istore 5, 2), (20, .ldc_w 288, 3), (23, .istore 6, 2), (25, .iconst 0, 1), (26, .istore 7, 2), (28, .ldc_w 289, 3), (31, .istore 8, 2)]) (S2 := (33, [some (.ref p), some (.int v1), some (.int v2), some (.int v1), some (.int (374761393 : Int32)), some (.int (606290984 : Int32)), some (.int (-2048144777 : Int32)), some (.int (0 : Int32)), some (.int (1640531535 : Int32))], [], M)) (by decide +kernel) (hO := mm_own_31) rfl ?_
    have hp : mp_31_33 L xs p n (d + 1) v1 v2 v1 (606290984 : Int32) (-2048144777 : Int32) (0 : Int32) (1640531535 : Int32) M o := by
      refine ms_31_L33 ha hd h hA (fun r19 M18 h => ?_)
      intro y20
      show mm_Runs L xs (d + 1) 31 (147, [some (.ref p), some (.int v1), some (.int v2), some (.int r19.1), y20, some (.int r19.2.1), some (.int r19.2.2.1), some (.int r19.2.2.2.1), some (.int r19.2.2.2.2)], [], M18) o
      exact (ms_31_j147 ha hd h hA : mp_31_147 L xs p n (d + 1) v1 v2 r19.1 r19.2.1 r19.2.2.1 r19.2.2.2.1 r19.2.2.2.2 M18 o) y20
    exact hp (some (.int (374761393 : Int32)))
-- 122: PlainPacks$Pieces.readFrameHead()J (depth 9)
theorem mm_own_122 : mm_own 122 = 9 := rfl
def mp_122_44 (L : Nat) (xs : Nat → Int32) (d : Nat) (v1 : Int32) (s0 : Int32) (M : mm_M) (o : mm_E) : Prop := ∀ z2 z3 z4 z5 z6 : Option Value, mm_Runs L xs d 122 (44, [some (.ref 41), some (.int v1), z2, z3, z4, z5, z6], [.int s0], M) o
def mp_122_82 (L : Nat) (xs : Nat → Int32) (d : Nat) (v1 : Int32) (v3 : Int32) (s0 : Int32) (M : mm_M) (o : mm_E) : Prop := ∀ z2 z4 z5 z6 : Option Value, mm_Runs L xs d 122 (82, [some (.ref 41), some (.int v1), z2, some (.int v3), z4, z5, z6], [.int s0], M) o
def mp_122_120 (L : Nat) (xs : Nat → Int32) (d : Nat) (v1 : Int32) (s0 : Int64) (M : mm_M) (o : mm_E) : Prop := ∀ z2 z3 z4 z5 z6 : Option Value, mm_Runs L xs d 122 (120, [some (.ref 41), some (.int v1), z2, z3, z4, z5, z6], [.long s0], M) o
def mp_122_166 (L : Nat) (xs : Nat → Int32) (d : Nat) (v4 : Int64) (s0 : Int32) (M : mm_M) (o : mm_E) : Prop := ∀ z0 z1 z2 z3 z5 z6 : Option Value, mm_Runs L xs d 122 (166, [z0, z1, z2, z3, some (.long v4), z5, z6], [.int s0], M) o
noncomputable def mf_122_j166 (v4 : Int64) (s0 : Int32) (M : mm_M) : mm_O Int64 := mm_B (mf_27 s0 M) (fun _ M1 => some (.inl v4, M1))
set_option maxRecDepth 8000 in
set_option maxHeartbeats 4000000 in
theorem ms_122_j166 {L : Nat} {xs : Nat → Int32} {d : Nat} (hd : 9 ≤ d) {v4 : Int64} {s0 : Int32} {M : mm_M} {q : (Int64 ⊕ Nat) × mm_M} {o : mm_E} (h : mf_122_j166 v4 s0 M = some q) (hA : mm_A (mm_Kr mm_wl) q o) : mp_122_166 L xs d v4 s0 M o := by
  unfold mf_122_j166 at h
  obtain ⟨d, rfl⟩ := mm_d1 (n := 8) hd
  intro z0 z1 z2 z3 z5 z6
  show mm_Runs L xs (d + 1) 122 (166, [z0, z1, z2, z3, some (.long v4), z5, z6], [.int s0], M) o
  refine mm_R_call (v := mm_wv) h hA (k2 := 27) (as := [.int s0]) (r := []) rfl (fun _ => rfl) (fun q hq o ho => ms_27 (by omega) hq ho) (fun _ M1 h => ?_)
  show mm_Runs L xs (d + 1) 122 (169, [z0, z1, z2, z3, some (.long v4), z5, z6], [], M1) o
  refine mm_Runs.seq (l := [(169, .lload 4, 2)]) (S2 := (171, [z0, z1, z2, z3, some (.long v4), z5, z6], [.long v4], M1)) (by decide +kernel) (hO := mm_own_122) rfl ?_
  cases h
  exact mm_R_retl rfl rfl hA
noncomputable def mf_122_j120 (v1 : Int32) (s0 : Int64) (M : mm_M) : mm_O Int64 := mm_B (mf_31 2 10000 v1 (M.1 1 2) M) (fun r1 M2 => mm_B (mf_44 M2) (fun r3 M4 => if r3 = ((mm_ush r1 (8 : Int32)) &&& (255 : Int32)) then (mf_122_j166 s0 (0 : Int32) M4) else (mf_122_j166 s0 (1 : Int32) M4)))
set_option maxRecDepth 8000 in
set_option maxHeartbeats 4000000 in
theorem ms_122_j120 {L : Nat} {xs : Nat → Int32} {d : Nat} (hd : 9 ≤ d) {v1 : Int32} {s0 : Int64} {M : mm_M} {q : (Int64 ⊕ Nat) × mm_M} {o : mm_E} (h : mf_122_j120 v1 s0 M = some q) (hA : mm_A (mm_Kr mm_wl) q o) : mp_122_120 L xs d v1 s0 M o := by
  unfold mf_122_j120 at h
  obtain ⟨d, rfl⟩ := mm_d1 (n := 8) hd
  intro z2 z3 z4 z5 z6
  show mm_Runs L xs (d + 1) 122 (120, [some (.ref 41), some (.int v1), z2, z3, z4, z5, z6], [.long s0], M) o
  refine mm_Runs.seq (l := [(120, .lstore 4, 2), (122, .aload_n 0, 1), (123, .getfield 9, 3), (126, .getfield 95, 3), (129, .iload_n 1, 1), (130, .aload_n 0, 1), (131, .getfield 9, 3), (134, .getfield 88, 3)]) (S2 := (137, [some (.ref 41), some (.int v1), z2, (mm_no2 z3), some (.long s0), none, z6], [.int (M.1 1 2), .int v1, .ref 2], M)) (by decide +kernel) (hO := mm_own_122) rfl ?_
  refine mm_R_call (v := mm_wi) h hA (k2 := 31) (as := [.ref 2, .int v1, .int (M.1 1 2)]) (r := []) rfl (fun _ => rfl) (fun q hq o ho => ms_31 rfl (by omega) hq ho) (fun r1 M2 h => ?_)
  show mm_Runs L xs (d + 1) 122 (140, [some (.ref 41), some (.int v1), z2, (mm_no2 z3), some (.long s0), none, z6], [.int r1], M2) o
  refine mm_Runs.seq (l := [(140, .bipush 8, 2), (142, .iushr, 1), (143, .sipush 255, 3), (146, .iand, 1), (147, .istore 6, 2), (149, .aload_n 0, 1), (150, .getfield 9, 3)]) (S2 := (153, [some (.ref 41), some (.int v1), z2, (mm_no2 z3), some (.long s0), none, some (.int ((mm_ush r1 (8 : Int32)) &&& (255 : Int32)))], [.ref 1], M2)) (by decide +kernel) (hO := mm_own_122) rfl ?_
  refine mm_R_call (v := mm_wi) h hA (k2 := 44) (as := [.ref 1]) (r := []) rfl (fun _ => rfl) (fun q hq o ho => ms_44 (by omega) hq ho) (fun r3 M4 h => ?_)
  show mm_Runs L xs (d + 1) 122 (156, [some (.ref 41), some (.int v1), z2, (mm_no2 z3), some (.long s0), none, some (.int ((mm_ush r1 (8 : Int32)) &&& (255 : Int32)))], [.int r3], M4) o
  refine mm_Runs.seq (l := [(156, .iload 6, 2)]) (S2 := (158, [some (.ref 41), some (.int v1), z2, (mm_no2 z3), some (.long s0), none, some (.int ((mm_ush r1 (8 : Int32)) &&& (255 : Int32)))], [.int ((mm_ush r1 (8 : Int32)) &&& (255 : Int32)), .int r3], M4)) (by decide +kernel) (hO := mm_own_122) rfl ?_
  refine mm_R_ieq (t := 165) rfl rfl rfl (fun hc => ?_) (fun hc => ?_)
  · replace h := mm_ip hc h
    refine mm_Runs.seq (l := [(165, .iconst 0, 1)]) (S2 := (166, [some (.ref 41), some (.int v1), z2, (mm_no2 z3), some (.long s0), none, some (.int ((mm_ush r1 (8 : Int32)) &&& (255 : Int32)))], [.int (0 : Int32)], M4)) (by decide +kernel) (hO := mm_own_122) rfl ?_
    exact (ms_122_j166 hd h hA : mp_122_166 L xs (d + 1) s0 (0 : Int32) M4 o) (some (.ref 41)) (some (.int v1)) z2 ((mm_no2 z3)) none (some (.int ((mm_ush r1 (8 : Int32)) &&& (255 : Int32))))
  · replace h := mm_iq hc h
    refine mm_Runs.seq (l := [(161, .iconst 1, 1), (162, .goto 4, 3)]) (S2 := (166, [some (.ref 41), some (.int v1), z2, (mm_no2 z3), some (.long s0), none, some (.int ((mm_ush r1 (8 : Int32)) &&& (255 : Int32)))], [.int (1 : Int32)], M4)) (by decide +kernel) (hO := mm_own_122) rfl ?_
    exact (ms_122_j166 hd h hA : mp_122_166 L xs (d + 1) s0 (1 : Int32) M4 o) (some (.ref 41)) (some (.int v1)) z2 ((mm_no2 z3)) none (some (.int ((mm_ush r1 (8 : Int32)) &&& (255 : Int32))))
noncomputable def mf_122_j82 (v1 : Int32) (v3 : Int32) (s0 : Int32) (M : mm_M) : mm_O Int64 := mm_B (mf_27 s0 M) (fun _ M1 => if ((M1.1 41 4) &&& (8 : Int32)) = 0 then (mf_122_j120 v1 (0 : Int64) (mm_pl M1 41 5 (mm_lshl (1 : Int64) ((8 : Int32) + ((2 : Int32) * v3))))) else (mm_B (mf_47 (8 : Int32) (mm_pl M1 41 5 (mm_lshl (1 : Int64) ((8 : Int32) + ((2 : Int32) * v3))))) (fun r2 M3 => mf_122_j120 v1 r2 M3)))
set_option maxRecDepth 8000 in
set_option maxHeartbeats 4000000 in
theorem ms_122_j82 {L : Nat} {xs : Nat → Int32} {d : Nat} (hd : 9 ≤ d) {v1 : Int32} {v3 : Int32} {s0 : Int32} {M : mm_M} {q : (Int64 ⊕ Nat) × mm_M} {o : mm_E} (h : mf_122_j82 v1 v3 s0 M = some q) (hA : mm_A (mm_Kr mm_wl) q o) : mp_122_82 L xs d v1 v3 s0 M o := by
  unfold mf_122_j82 at h
  obtain ⟨d, rfl⟩ := mm_d1 (n := 8) hd
  intro z2 z4 z5 z6
  show mm_Runs L xs (d + 1) 122 (82, [some (.ref 41), some (.int v1), z2, some (.int v3), z4, z5, z6], [.int s0], M) o
  refine mm_R_call (v := mm_wv) h hA (k2 := 27) (as := [.int s0]) (r := []) rfl (fun _ => rfl) (fun q hq o ho => ms_27 (by omega) hq ho) (fun _ M1 h => ?_)
  show mm_Runs L xs (d + 1) 122 (85, [some (.ref 41), some (.int v1), z2, some (.int v3), z4, z5, z6], [], M1) o
  refine mm_Runs.seq (l := [(85, .aload_n 0, 1), (86, .lconst 1, 1), (87, .bipush 8, 2), (89, .iconst 2, 1), (90, .iload_n 3, 1), (91, .imul, 1), (92, .iadd, 1), (93, .lshl, 1), (94, .putfield 91, 3), (97, .aload_n 0, 1), (98, .getfield 77, 3), (101, .bipush 8, 2), (103, .iand, 1)]) (S2 := (104, [some (.ref 41), some (.int v1), z2, some (.int v3), z4, z5, z6], [.int ((M1.1 41 4) &&& (8 : Int32))], (mm_pl M1 41 5 (mm_lshl (1 : Int64) ((8 : Int32) + ((2 : Int32) * v3)))))) (by decide +kernel) (hO := mm_own_122) rfl ?_
  refine mm_R_zeq (t := 119) rfl rfl rfl (fun hc => ?_) (fun hc => ?_)
  · replace h := mm_ip hc h
    refine mm_Runs.seq (l := [(119, .lconst 0, 1)]) (S2 := (120, [some (.ref 41), some (.int v1), z2, some (.int v3), z4, z5, z6], [.long (0 : Int64)], (mm_pl M1 41 5 (mm_lshl (1 : Int64) ((8 : Int32) + ((2 : Int32) * v3)))))) (by decide +kernel) (hO := mm_own_122) rfl ?_
    exact (ms_122_j120 hd h hA : mp_122_120 L xs (d + 1) v1 (0 : Int64) (mm_pl M1 41 5 (mm_lshl (1 : Int64) ((8 : Int32) + ((2 : Int32) * v3)))) o) z2 (some (.int v3)) z4 z5 z6
  · replace h := mm_iq hc h
    refine mm_Runs.seq (l := [(107, .aload_n 0, 1), (108, .getfield 9, 3), (111, .bipush 8, 2)]) (S2 := (113, [some (.ref 41), some (.int v1), z2, some (.int v3), z4, z5, z6], [.int (8 : Int32), .ref 1], (mm_pl M1 41 5 (mm_lshl (1 : Int64) ((8 : Int32) + ((2 : Int32) * v3)))))) (by decide +kernel) (hO := mm_own_122) rfl ?_
    refine mm_R_call (v := mm_wl) h hA (k2 := 47) (as := [.ref 1, .int (8 : Int32)]) (r := []) rfl (fun _ => rfl) (fun q hq o ho => ms_47 (by omega) hq ho) (fun r2 M3 h => ?_)
    show mm_Runs L xs (d + 1) 122 (116, [some (.ref 41), some (.int v1), z2, some (.int v3), z4, z5, z6], [.long r2], M3) o
    refine mm_Runs.seq (l := [(116, .goto 4, 3)]) (S2 := (120, [some (.ref 41), some (.int v1), z2, some (.int v3), z4, z5, z6], [.long r2], M3)) (by decide +kernel) (hO := mm_own_122) rfl ?_
    exact (ms_122_j120 hd h hA : mp_122_120 L xs (d + 1) v1 r2 M3 o) z2 (some (.int v3)) z4 z5 z6
noncomputable def mf_122_j44 (v1 : Int32) (s0 : Int32) (M : mm_M) : mm_O Int64 := mm_B (mf_27 s0 M) (fun _ M1 => mm_B (mf_44 M1) (fun r2 M3 => if (r2 &&& (15 : Int32)) = 0 then (if (mm_shr r2 (4 : Int32)) < (4 : Int32) then (mf_122_j82 v1 (mm_shr r2 (4 : Int32)) (1 : Int32) M3) else (if (7 : Int32) < (mm_shr r2 (4 : Int32)) then (mf_122_j82 v1 (mm_shr r2 (4 : Int32)) (1 : Int32) M3) else (mf_122_j82 v1 (mm_shr r2 (4 : Int32)) (0 : Int32) M3))) else (mf_122_j82 v1 (mm_shr r2 (4 : Int32)) (1 : Int32) M3)))
set_option maxRecDepth 8000 in
set_option maxHeartbeats 4000000 in
theorem ms_122_j44 {L : Nat} {xs : Nat → Int32} {d : Nat} (hd : 9 ≤ d) {v1 : Int32} {s0 : Int32} {M : mm_M} {q : (Int64 ⊕ Nat) × mm_M} {o : mm_E} (h : mf_122_j44 v1 s0 M = some q) (hA : mm_A (mm_Kr mm_wl) q o) : mp_122_44 L xs d v1 s0 M o := by
  unfold mf_122_j44 at h
  obtain ⟨d, rfl⟩ := mm_d1 (n := 8) hd
  intro z2 z3 z4 z5 z6
  show mm_Runs L xs (d + 1) 122 (44, [some (.ref 41), some (.int v1), z2, z3, z4, z5, z6], [.int s0], M) o
  refine mm_R_call (v := mm_wv) h hA (k2 := 27) (as := [.int s0]) (r := []) rfl (fun _ => rfl) (fun q hq o ho => ms_27 (by omega) hq ho) (fun _ M1 h => ?_)
  show mm_Runs L xs (d + 1) 122 (47, [some (.ref 41), some (.int v1), z2, z3, z4, z5, z6], [], M1) o
  refine mm_Runs.seq (l := [(47, .aload_n 0, 1), (48, .getfield 9, 3)]) (S2 := (51, [some (.ref 41), some (.int v1), z2, z3, z4, z5, z6], [.ref 1], M1)) (by decide +kernel) (hO := mm_own_122) rfl ?_
  refine mm_R_call (v := mm_wi) h hA (k2 := 44) (as := [.ref 1]) (r := []) rfl (fun _ => rfl) (fun q hq o ho => ms_44 (by omega) hq ho) (fun r2 M3 h => ?_)
  show mm_Runs L xs (d + 1) 122 (54, [some (.ref 41), some (.int v1), z2, z3, z4, z5, z6], [.int r2], M3) o
  refine mm_Runs.seq (l := [(54, .istore_n 2, 1), (55, .iload_n 2, 1), (56, .iconst 4, 1), (57, .ishr, 1), (58, .istore_n 3, 1), (59, .iload_n 2, 1), (60, .bipush 15, 2), (62, .iand, 1)]) (S2 := (63, [some (.ref 41), some (.int v1), some (.int r2), some (.int (mm_shr r2 (4 : Int32))), z4, z5, z6], [.int (r2 &&& (15 : Int32))], M3)) (by decide +kernel) (hO := mm_own_122) rfl ?_
  refine mm_R_zne (t := 77) rfl rfl rfl (fun hc => ?_) (fun hc => ?_)
  · replace h := mm_ip hc h
    refine mm_Runs.seq (l := [(66, .iload_n 3, 1), (67, .iconst 4, 1)]) (S2 := (68, [some (.ref 41), some (.int v1), some (.int r2), some (.int (mm_shr r2 (4 : Int32))), z4, z5, z6], [.int (4 : Int32), .int (mm_shr r2 (4 : Int32))], M3)) (by decide +kernel) (hO := mm_own_122) rfl ?_
    refine mm_R_ilt (t := 77) rfl rfl rfl (fun hc => ?_) (fun hc => ?_)
    · replace h := mm_ip hc h
      refine mm_Runs.seq (l := [(77, .iconst 1, 1), (78, .goto 4, 3)]) (S2 := (82, [some (.ref 41), some (.int v1), some (.int r2), some (.int (mm_shr r2 (4 : Int32))), z4, z5, z6], [.int (1 : Int32)], M3)) (by decide +kernel) (hO := mm_own_122) rfl ?_
      exact (ms_122_j82 hd h hA : mp_122_82 L xs (d + 1) v1 (mm_shr r2 (4 : Int32)) (1 : Int32) M3 o) (some (.int r2)) z4 z5 z6
    · replace h := mm_iq hc h
      refine mm_Runs.seq (l := [(71, .iload_n 3, 1), (72, .bipush 7, 2)]) (S2 := (74, [some (.ref 41), some (.int v1), some (.int r2), some (.int (mm_shr r2 (4 : Int32))), z4, z5, z6], [.int (7 : Int32), .int (mm_shr r2 (4 : Int32))], M3)) (by decide +kernel) (hO := mm_own_122) rfl ?_
      refine mm_R_ile (t := 81) rfl rfl rfl (fun hc => ?_) (fun hc => ?_)
      · replace h := mm_ip hc h
        refine mm_Runs.seq (l := [(77, .iconst 1, 1), (78, .goto 4, 3)]) (S2 := (82, [some (.ref 41), some (.int v1), some (.int r2), some (.int (mm_shr r2 (4 : Int32))), z4, z5, z6], [.int (1 : Int32)], M3)) (by decide +kernel) (hO := mm_own_122) rfl ?_
        exact (ms_122_j82 hd h hA : mp_122_82 L xs (d + 1) v1 (mm_shr r2 (4 : Int32)) (1 : Int32) M3 o) (some (.int r2)) z4 z5 z6
      · replace h := mm_iq hc h
        refine mm_Runs.seq (l := [(81, .iconst 0, 1)]) (S2 := (82, [some (.ref 41), some (.int v1), some (.int r2), some (.int (mm_shr r2 (4 : Int32))), z4, z5, z6], [.int (0 : Int32)], M3)) (by decide +kernel) (hO := mm_own_122) rfl ?_
        exact (ms_122_j82 hd h hA : mp_122_82 L xs (d + 1) v1 (mm_shr r2 (4 : Int32)) (0 : Int32) M3 o) (some (.int r2)) z4 z5 z6
  · replace h := mm_iq hc h
    refine mm_Runs.seq (l := [(77, .iconst 1, 1), (78, .goto 4, 3)]) (S2 := (82, [some (.ref 41), some (.int v1), some (.int r2), some (.int (mm_shr r2 (4 : Int32))), z4, z5, z6], [.int (1 : Int32)], M3)) (by decide +kernel) (hO := mm_own_122) rfl ?_
    exact (ms_122_j82 hd h hA : mp_122_82 L xs (d + 1) v1 (mm_shr r2 (4 : Int32)) (1 : Int32) M3 o) (some (.int r2)) z4 z5 z6
noncomputable def mf_122 (M : mm_M) : mm_O Int64 := mm_B (mf_44 M) (fun r1 M2 => if (mm_shr r1 (6 : Int32)) = (1 : Int32) then (if (r1 &&& (3 : Int32)) = 0 then (mf_122_j44 (M.1 1 2) (0 : Int32) (mm_pi M2 41 4 r1)) else (mf_122_j44 (M.1 1 2) (1 : Int32) (mm_pi M2 41 4 r1))) else (mf_122_j44 (M.1 1 2) (1 : Int32) (mm_pi M2 41 4 r1)))
set_option maxRecDepth 8000 in
set_option maxHeartbeats 4000000 in
theorem ms_122 {L : Nat} {xs : Nat → Int32} {d : Nat} (hd : 9 ≤ d) {M : mm_M} {q : (Int64 ⊕ Nat) × mm_M} {o : mm_E} (h : mf_122 M = some q) (hA : mm_A (mm_Kr mm_wl) q o) : mm_Runs L xs d 122 (0, mm_ent (mm_ml 122) [.ref 41], [], M) o := by
  unfold mf_122 at h
  obtain ⟨d, rfl⟩ := mm_d1 (n := 8) hd
  show mm_Runs L xs (d + 1) 122 (0, [some (.ref 41), none, none, none, none, none, none], [], M) o
  refine mm_Runs.seq (l := [(0, .aload_n 0, 1), (1, .getfield 9, 3), (4, .getfield 88, 3), (7, .istore_n 1, 1), (8, .aload_n 0, 1), (9, .aload_n 0, 1), (10, .getfield 9, 3)]) (S2 := (13, [some (.ref 41), some (.int (M.1 1 2)), none, none, none, none, none], [.ref 1, .ref 41], M)) (by decide +kernel) (hO := mm_own_122) rfl ?_
  refine mm_R_call (v := mm_wi) h hA (k2 := 44) (as := [.ref 1]) (r := [.ref 41]) rfl (fun _ => rfl) (fun q hq o ho => ms_44 (by omega) hq ho) (fun r1 M2 h => ?_)
  show mm_Runs L xs (d + 1) 122 (16, [some (.ref 41), some (.int (M.1 1 2)), none, none, none, none, none], [.int r1, .ref 41], M2) o
  refine mm_Runs.seq (l := [(16, .putfield 77, 3), (19, .aload_n 0, 1), (20, .getfield 77, 3), (23, .bipush 6, 2), (25, .ishr, 1), (26, .iconst 1, 1)]) (S2 := (27, [some (.ref 41), some (.int (M.1 1 2)), none, none, none, none, none], [.int (1 : Int32), .int (mm_shr r1 (6 : Int32))], (mm_pi M2 41 4 r1))) (by decide +kernel) (hO := mm_own_122) rfl ?_
  refine mm_R_ine (t := 39) rfl rfl rfl (fun hc => ?_) (fun hc => ?_)
  · replace h := mm_ip hc h
    refine mm_Runs.seq (l := [(30, .aload_n 0, 1), (31, .getfield 77, 3), (34, .iconst 3, 1), (35, .iand, 1)]) (S2 := (36, [some (.ref 41), some (.int (M.1 1 2)), none, none, none, none, none], [.int (r1 &&& (3 : Int32))], (mm_pi M2 41 4 r1))) (by decide +kernel) (hO := mm_own_122) rfl ?_
    refine mm_R_zeq (t := 43) rfl rfl rfl (fun hc => ?_) (fun hc => ?_)
    · replace h := mm_ip hc h
      refine mm_Runs.seq (l := [(43, .iconst 0, 1)]) (S2 := (44, [some (.ref 41), some (.int (M.1 1 2)), none, none, none, none, none], [.int (0 : Int32)], (mm_pi M2 41 4 r1))) (by decide +kernel) (hO := mm_own_122) rfl ?_
      exact (ms_122_j44 hd h hA : mp_122_44 L xs (d + 1) (M.1 1 2) (0 : Int32) (mm_pi M2 41 4 r1) o) none none none none none
    · replace h := mm_iq hc h
      refine mm_Runs.seq (l := [(39, .iconst 1, 1), (40, .goto 4, 3)]) (S2 := (44, [some (.ref 41), some (.int (M.1 1 2)), none, none, none, none, none], [.int (1 : Int32)], (mm_pi M2 41 4 r1))) (by decide +kernel) (hO := mm_own_122) rfl ?_
      exact (ms_122_j44 hd h hA : mp_122_44 L xs (d + 1) (M.1 1 2) (1 : Int32) (mm_pi M2 41 4 r1) o) none none none none none
  · replace h := mm_iq hc h
    refine mm_Runs.seq (l := [(39, .iconst 1, 1), (40, .goto 4, 3)]) (S2 := (44, [some (.ref 41), some (.int (M.1 1 2)), none, none, none, none, none], [.int (1 : Int32)], (mm_pi M2 41 4 r1))) (by decide +kernel) (hO := mm_own_122) rfl ?_
    exact (ms_122_j44 hd h hA : mp_122_44 L xs (d + 1) (M.1 1 2) (1 : Int32) (mm_pi M2 41 4 r1) o) none none none none none
-- 41: PlainPacks$Source.closeBehind(I)V (depth 0)
theorem mm_own_41 : mm_own 41 = 1 := rfl
noncomputable def mf_41 (v1 : Int32) (M : mm_M) : mm_O Unit := if v1 < ((M.1 1 1) - (M.1 1 2)) then (some (.inl (), (mm_pi M 1 3 ((M.1 1 2) + v1)))) else (some (.inl (), (mm_pi M 1 3 (M.1 1 1))))
set_option maxRecDepth 8000 in
set_option maxHeartbeats 4000000 in
theorem ms_41 {L : Nat} {xs : Nat → Int32} {d : Nat} (hd : 0 ≤ d) {v1 : Int32} {M : mm_M} {q : (Unit ⊕ Nat) × mm_M} {o : mm_E} (h : mf_41 v1 M = some q) (hA : mm_A (mm_Kr mm_wv) q o) : mm_Runs L xs d 41 (0, mm_ent (mm_ml 41) [.ref 1, .int v1], [], M) o := by
  unfold mf_41 at h
  show mm_Runs L xs (d) 41 (0, [some (.ref 1), some (.int v1)], [], M) o
  refine mm_Runs.seq (l := [(0, .aload_n 0, 1), (1, .iload_n 1, 1), (2, .aload_n 0, 1), (3, .getfield 15, 3), (6, .aload_n 0, 1), (7, .getfield 19, 3), (10, .isub, 1)]) (S2 := (11, [some (.ref 1), some (.int v1)], [.int ((M.1 1 1) - (M.1 1 2)), .int v1, .ref 1], M)) (by decide +kernel) (hO := mm_own_41) rfl ?_
  refine mm_R_ige (t := 23) rfl rfl rfl (fun hc => ?_) (fun hc => ?_)
  · replace h := mm_ip hc h
    refine mm_Runs.seq (l := [(14, .aload_n 0, 1), (15, .getfield 19, 3), (18, .iload_n 1, 1), (19, .iadd, 1), (20, .goto 7, 3), (27, .putfield 22, 3)]) (S2 := (30, [some (.ref 1), some (.int v1)], [], (mm_pi M 1 3 ((M.1 1 2) + v1)))) (by decide +kernel) (hO := mm_own_41) rfl ?_
    cases h
    exact mm_R_retv rfl rfl hA
  · replace h := mm_iq hc h
    refine mm_Runs.seq (l := [(23, .aload_n 0, 1), (24, .getfield 15, 3), (27, .putfield 22, 3)]) (S2 := (30, [some (.ref 1), some (.int v1)], [], (mm_pi M 1 3 (M.1 1 1)))) (by decide +kernel) (hO := mm_own_41) rfl ?_
    cases h
    exact mm_R_retv rfl rfl hA
-- 42: PlainPacks$Source.reopen()V (depth 0)
theorem mm_own_42 : mm_own 42 = 1 := rfl
noncomputable def mf_42 (M : mm_M) : mm_O Unit := some (.inl (), (mm_pi M 1 3 (M.1 1 1)))
set_option maxRecDepth 8000 in
set_option maxHeartbeats 4000000 in
theorem ms_42 {L : Nat} {xs : Nat → Int32} {d : Nat} (hd : 0 ≤ d) {M : mm_M} {q : (Unit ⊕ Nat) × mm_M} {o : mm_E} (h : mf_42 M = some q) (hA : mm_A (mm_Kr mm_wv) q o) : mm_Runs L xs d 42 (0, mm_ent (mm_ml 42) [.ref 1], [], M) o := by
  unfold mf_42 at h
  show mm_Runs L xs (d) 42 (0, [some (.ref 1)], [], M) o
  refine mm_Runs.seq (l := [(0, .aload_n 0, 1), (1, .aload_n 0, 1), (2, .getfield 15, 3), (5, .putfield 22, 3)]) (S2 := (8, [some (.ref 1)], [], (mm_pi M 1 3 (M.1 1 1)))) (by decide +kernel) (hO := mm_own_42) rfl ?_
  cases h
  exact mm_R_retv rfl rfl hA
-- 123: PlainPacks$Pieces.readFrameBlock(J)V (depth 11)
theorem mm_own_123 : mm_own 123 = 9 := rfl
def mp_123_13 (L : Nat) (xs : Nat → Int32) (d : Nat) (v1 : Int64) (s0 : Int32) (M : mm_M) (o : mm_E) : Prop := ∀ z2 z3 z4 z5 z6 z7 : Option Value, mm_Runs L xs d 123 (13, [some (.ref 41), some (.long v1), z2, z3, z4, z5, z6, z7], [.int s0], M) o
def mp_123_27 (L : Nat) (xs : Nat → Int32) (d : Nat) (v3 : Int32) (s0 : Int64) (M : mm_M) (o : mm_E) : Prop := ∀ z1 z2 z4 z5 z6 z7 : Option Value, mm_Runs L xs d 123 (27, [some (.ref 41), z1, z2, some (.int v3), z4, z5, z6, z7], [.long s0], M) o
def mp_123_44 (L : Nat) (xs : Nat → Int32) (d : Nat) (v3 : Int32) (v4 : Int64) (s0 : Int32) (M : mm_M) (o : mm_E) : Prop := ∀ z1 z2 z5 z6 z7 : Option Value, mm_Runs L xs d 123 (44, [some (.ref 41), z1, z2, some (.int v3), some (.long v4), z5, z6, z7], [.int s0], M) o
def mp_123_114 (L : Nat) (xs : Nat → Int32) (d : Nat) (v6 : Int32) (s1 : Int32) (M : mm_M) (o : mm_E) : Prop := ∀ z1 z2 z3 z4 z5 z7 : Option Value, mm_Runs L xs d 123 (114, [some (.ref 41), z1, z2, z3, z4, z5, some (.int v6), z7], [.int s1, .ref 41], M) o
def mp_123_124 (L : Nat) (xs : Nat → Int32) (d : Nat) (v6 : Int32) (M : mm_M) (o : mm_E) : Prop := ∀ z1 z2 z3 z4 z5 z7 : Option Value, mm_Runs L xs d 123 (124, [some (.ref 41), z1, z2, z3, z4, z5, some (.int v6), z7], [], M) o
def mp_123_174 (L : Nat) (xs : Nat → Int32) (d : Nat) (s0 : Int32) (M : mm_M) (o : mm_E) : Prop := ∀ z0 z1 z2 z3 z4 z5 z6 z7 : Option Value, mm_Runs L xs d 123 (174, [z0, z1, z2, z3, z4, z5, z6, z7], [.int s0], M) o
noncomputable def mf_123_j174 (s0 : Int32) (M : mm_M) : mm_O Unit := mm_B (mf_27 s0 M) (fun _ M1 => some (.inl (), M1))
set_option maxRecDepth 8000 in
set_option maxHeartbeats 4000000 in
theorem ms_123_j174 {L : Nat} {xs : Nat → Int32} {d : Nat} (hd : 11 ≤ d) {s0 : Int32} {M : mm_M} {q : (Unit ⊕ Nat) × mm_M} {o : mm_E} (h : mf_123_j174 s0 M = some q) (hA : mm_A (mm_Kr mm_wv) q o) : mp_123_174 L xs d s0 M o := by
  unfold mf_123_j174 at h
  obtain ⟨d, rfl⟩ := mm_d1 (n := 10) hd
  intro z0 z1 z2 z3 z4 z5 z6 z7
  show mm_Runs L xs (d + 1) 123 (174, [z0, z1, z2, z3, z4, z5, z6, z7], [.int s0], M) o
  refine mm_R_call (v := mm_wv) h hA (k2 := 27) (as := [.int s0]) (r := []) rfl (fun _ => rfl) (fun q hq o ho => ms_27 (by omega) hq ho) (fun _ M1 h => ?_)
  show mm_Runs L xs (d + 1) 123 (177, [z0, z1, z2, z3, z4, z5, z6, z7], [], M1) o
  cases h
  exact mm_R_retv rfl rfl hA
noncomputable def mf_123_j124 (v6 : Int32) (M : mm_M) : mm_O Unit := if ((M.1 41 4) &&& (16 : Int32)) = 0 then (some (.inl (), M)) else (mm_B (mf_47 (4 : Int32) M) (fun r1 M2 => mm_B (mf_31 2 10000 v6 (M.1 1 2) M2) (fun r3 M4 => if r1.toInt32 = r3 then (mf_123_j174 (0 : Int32) M4) else (mf_123_j174 (1 : Int32) M4))))
set_option maxRecDepth 8000 in
set_option maxHeartbeats 4000000 in
theorem ms_123_j124 {L : Nat} {xs : Nat → Int32} {d : Nat} (hd : 11 ≤ d) {v6 : Int32} {M : mm_M} {q : (Unit ⊕ Nat) × mm_M} {o : mm_E} (h : mf_123_j124 v6 M = some q) (hA : mm_A (mm_Kr mm_wv) q o) : mp_123_124 L xs d v6 M o := by
  unfold mf_123_j124 at h
  obtain ⟨d, rfl⟩ := mm_d1 (n := 10) hd
  intro z1 z2 z3 z4 z5 z7
  show mm_Runs L xs (d + 1) 123 (124, [some (.ref 41), z1, z2, z3, z4, z5, some (.int v6), z7], [], M) o
  refine mm_Runs.seq (l := [(124, .aload_n 0, 1), (125, .getfield 77, 3), (128, .bipush 16, 2), (130, .iand, 1)]) (S2 := (131, [some (.ref 41), z1, z2, z3, z4, z5, some (.int v6), z7], [.int ((M.1 41 4) &&& (16 : Int32))], M)) (by decide +kernel) (hO := mm_own_123) rfl ?_
  refine mm_R_zeq (t := 177) rfl rfl rfl (fun hc => ?_) (fun hc => ?_)
  · replace h := mm_ip hc h
    cases h
    exact mm_R_retv rfl rfl hA
  · replace h := mm_iq hc h
    refine mm_Runs.seq (l := [(134, .aload_n 0, 1), (135, .getfield 9, 3), (138, .getfield 88, 3), (141, .istore 7, 2), (143, .aload_n 0, 1), (144, .getfield 9, 3), (147, .iconst 4, 1)]) (S2 := (148, [some (.ref 41), z1, z2, z3, z4, z5, some (.int v6), some (.int (M.1 1 2))], [.int (4 : Int32), .ref 1], M)) (by decide +kernel) (hO := mm_own_123) rfl ?_
    refine mm_R_call (v := mm_wl) h hA (k2 := 47) (as := [.ref 1, .int (4 : Int32)]) (r := []) rfl (fun _ => rfl) (fun q hq o ho => ms_47 (by omega) hq ho) (fun r1 M2 h => ?_)
    show mm_Runs L xs (d + 1) 123 (151, [some (.ref 41), z1, z2, z3, z4, z5, some (.int v6), some (.int (M.1 1 2))], [.long r1], M2) o
    refine mm_Runs.seq (l := [(151, .l2i, 1), (152, .aload_n 0, 1), (153, .getfield 9, 3), (156, .getfield 95, 3), (159, .iload 6, 2), (161, .iload 7, 2)]) (S2 := (163, [some (.ref 41), z1, z2, z3, z4, z5, some (.int v6), some (.int (M.1 1 2))], [.int (M.1 1 2), .int v6, .ref 2, .int r1.toInt32], M2)) (by decide +kernel) (hO := mm_own_123) rfl ?_
    refine mm_R_call (v := mm_wi) h hA (k2 := 31) (as := [.ref 2, .int v6, .int (M.1 1 2)]) (r := [.int r1.toInt32]) rfl (fun _ => rfl) (fun q hq o ho => ms_31 rfl (by omega) hq ho) (fun r3 M4 h => ?_)
    show mm_Runs L xs (d + 1) 123 (166, [some (.ref 41), z1, z2, z3, z4, z5, some (.int v6), some (.int (M.1 1 2))], [.int r3, .int r1.toInt32], M4) o
    refine mm_R_ieq (t := 173) rfl rfl rfl (fun hc => ?_) (fun hc => ?_)
    · replace h := mm_ip hc h
      refine mm_Runs.seq (l := [(173, .iconst 0, 1)]) (S2 := (174, [some (.ref 41), z1, z2, z3, z4, z5, some (.int v6), some (.int (M.1 1 2))], [.int (0 : Int32)], M4)) (by decide +kernel) (hO := mm_own_123) rfl ?_
      exact (ms_123_j174 hd h hA : mp_123_174 L xs (d + 1) (0 : Int32) M4 o) (some (.ref 41)) z1 z2 z3 z4 z5 (some (.int v6)) (some (.int (M.1 1 2)))
    · replace h := mm_iq hc h
      refine mm_Runs.seq (l := [(169, .iconst 1, 1), (170, .goto 4, 3)]) (S2 := (174, [some (.ref 41), z1, z2, z3, z4, z5, some (.int v6), some (.int (M.1 1 2))], [.int (1 : Int32)], M4)) (by decide +kernel) (hO := mm_own_123) rfl ?_
      exact (ms_123_j174 hd h hA : mp_123_174 L xs (d + 1) (1 : Int32) M4 o) (some (.ref 41)) z1 z2 z3 z4 z5 (some (.int v6)) (some (.int (M.1 1 2)))
noncomputable def mf_123_j114 (v6 : Int32) (s1 : Int32) (M : mm_M) : mm_O Unit := mm_B (mf_118 s1 M) (fun _ M1 => mm_B (mf_42 M1) (fun _ M2 => mf_123_j124 v6 M2))
set_option maxRecDepth 8000 in
set_option maxHeartbeats 4000000 in
theorem ms_123_j114 {L : Nat} {xs : Nat → Int32} {d : Nat} (hd : 11 ≤ d) {v6 : Int32} {s1 : Int32} {M : mm_M} {q : (Unit ⊕ Nat) × mm_M} {o : mm_E} (h : mf_123_j114 v6 s1 M = some q) (hA : mm_A (mm_Kr mm_wv) q o) : mp_123_114 L xs d v6 s1 M o := by
  unfold mf_123_j114 at h
  obtain ⟨d, rfl⟩ := mm_d1 (n := 10) hd
  intro z1 z2 z3 z4 z5 z7
  show mm_Runs L xs (d + 1) 123 (114, [some (.ref 41), z1, z2, z3, z4, z5, some (.int v6), z7], [.int s1, .ref 41], M) o
  refine mm_R_call (v := mm_wv) h hA (k2 := 118) (as := [.ref 41, .int s1]) (r := []) rfl (fun _ => rfl) (fun q hq o ho => ms_118 (by omega) hq ho) (fun _ M1 h => ?_)
  show mm_Runs L xs (d + 1) 123 (117, [some (.ref 41), z1, z2, z3, z4, z5, some (.int v6), z7], [], M1) o
  refine mm_Runs.seq (l := [(117, .aload_n 0, 1), (118, .getfield 9, 3)]) (S2 := (121, [some (.ref 41), z1, z2, z3, z4, z5, some (.int v6), z7], [.ref 1], M1)) (by decide +kernel) (hO := mm_own_123) rfl ?_
  refine mm_R_call (v := mm_wv) h hA (k2 := 42) (as := [.ref 1]) (r := []) rfl (fun _ => rfl) (fun q hq o ho => ms_42 (by omega) hq ho) (fun _ M2 h => ?_)
  show mm_Runs L xs (d + 1) 123 (124, [some (.ref 41), z1, z2, z3, z4, z5, some (.int v6), z7], [], M2) o
  exact (ms_123_j124 hd h hA : mp_123_124 L xs (d + 1) v6 M2 o) z1 z2 z3 z4 z5 z7
noncomputable def mf_123_j44 (v3 : Int32) (v4 : Int64) (s0 : Int32) (M : mm_M) : mm_O Unit := mm_B (mf_27 s0 M) (fun _ M1 => if v3 = 0 then (mm_B (mf_41 v4.toInt32 (mm_pi M1 3 6 ((M1.1 3 6) + (1 : Int32)))) (fun _ M2 => if ((M2.1 41 4) &&& (32 : Int32)) = 0 then (mf_123_j114 (M1.1 1 2) (0 : Int32) M2) else (mf_123_j114 (M1.1 1 2) (M2.1 3 1) M2))) else (mm_B (mf_120 v4 (mm_pi M1 3 6 ((M1.1 3 6) + (1 : Int32)))) (fun _ M3 => mf_123_j124 (M1.1 1 2) M3)))
set_option maxRecDepth 8000 in
set_option maxHeartbeats 4000000 in
theorem ms_123_j44 {L : Nat} {xs : Nat → Int32} {d : Nat} (hd : 11 ≤ d) {v3 : Int32} {v4 : Int64} {s0 : Int32} {M : mm_M} {q : (Unit ⊕ Nat) × mm_M} {o : mm_E} (h : mf_123_j44 v3 v4 s0 M = some q) (hA : mm_A (mm_Kr mm_wv) q o) : mp_123_44 L xs d v3 v4 s0 M o := by
  unfold mf_123_j44 at h
  obtain ⟨d, rfl⟩ := mm_d1 (n := 10) hd
  intro z1 z2 z5 z6 z7
  show mm_Runs L xs (d + 1) 123 (44, [some (.ref 41), z1, z2, some (.int v3), some (.long v4), z5, z6, z7], [.int s0], M) o
  refine mm_R_call (v := mm_wv) h hA (k2 := 27) (as := [.int s0]) (r := []) rfl (fun _ => rfl) (fun q hq o ho => ms_27 (by omega) hq ho) (fun _ M1 h => ?_)
  show mm_Runs L xs (d + 1) 123 (47, [some (.ref 41), z1, z2, some (.int v3), some (.long v4), z5, z6, z7], [], M1) o
  refine mm_Runs.seq (l := [(47, .aload_n 0, 1), (48, .getfield 15, 3), (51, .dup, 1), (52, .getfield 98, 3), (55, .iconst 1, 1), (56, .iadd, 1), (57, .putfield 98, 3), (60, .aload_n 0, 1), (61, .getfield 9, 3), (64, .getfield 88, 3), (67, .istore 6, 2), (69, .iload_n 3, 1)]) (S2 := (70, [some (.ref 41), z1, z2, some (.int v3), some (.long v4), (mm_no2 z5), some (.int (M1.1 1 2)), z7], [.int v3], (mm_pi M1 3 6 ((M1.1 3 6) + (1 : Int32))))) (by decide +kernel) (hO := mm_own_123) rfl ?_
  refine mm_R_zeq (t := 82) rfl rfl rfl (fun hc => ?_) (fun hc => ?_)
  · replace h := mm_ip hc h
    refine mm_Runs.seq (l := [(82, .aload_n 0, 1), (83, .getfield 9, 3), (86, .lload 4, 2), (88, .l2i, 1)]) (S2 := (89, [some (.ref 41), z1, z2, some (.int v3), some (.long v4), (mm_no2 z5), some (.int (M1.1 1 2)), z7], [.int v4.toInt32, .ref 1], (mm_pi M1 3 6 ((M1.1 3 6) + (1 : Int32))))) (by decide +kernel) (hO := mm_own_123) rfl ?_
    refine mm_R_call (v := mm_wv) h hA (k2 := 41) (as := [.ref 1, .int v4.toInt32]) (r := []) rfl (fun _ => rfl) (fun q hq o ho => ms_41 (by omega) hq ho) (fun _ M2 h => ?_)
    show mm_Runs L xs (d + 1) 123 (92, [some (.ref 41), z1, z2, some (.int v3), some (.long v4), (mm_no2 z5), some (.int (M1.1 1 2)), z7], [], M2) o
    refine mm_Runs.seq (l := [(92, .aload_n 0, 1), (93, .aload_n 0, 1), (94, .getfield 77, 3), (97, .bipush 32, 2), (99, .iand, 1)]) (S2 := (100, [some (.ref 41), z1, z2, some (.int v3), some (.long v4), (mm_no2 z5), some (.int (M1.1 1 2)), z7], [.int ((M2.1 41 4) &&& (32 : Int32)), .ref 41], M2)) (by decide +kernel) (hO := mm_own_123) rfl ?_
    refine mm_R_zeq (t := 113) rfl rfl rfl (fun hc => ?_) (fun hc => ?_)
    · replace h := mm_ip hc h
      refine mm_Runs.seq (l := [(113, .iconst 0, 1)]) (S2 := (114, [some (.ref 41), z1, z2, some (.int v3), some (.long v4), (mm_no2 z5), some (.int (M1.1 1 2)), z7], [.int (0 : Int32), .ref 41], M2)) (by decide +kernel) (hO := mm_own_123) rfl ?_
      exact (ms_123_j114 hd h hA : mp_123_114 L xs (d + 1) (M1.1 1 2) (0 : Int32) M2 o) z1 z2 (some (.int v3)) (some (.long v4)) ((mm_no2 z5)) z7
    · replace h := mm_iq hc h
      refine mm_Runs.seq (l := [(103, .aload_n 0, 1), (104, .getfield 15, 3), (107, .getfield 56, 3), (110, .goto 4, 3)]) (S2 := (114, [some (.ref 41), z1, z2, some (.int v3), some (.long v4), (mm_no2 z5), some (.int (M1.1 1 2)), z7], [.int (M2.1 3 1), .ref 41], M2)) (by decide +kernel) (hO := mm_own_123) rfl ?_
      exact (ms_123_j114 hd h hA : mp_123_114 L xs (d + 1) (M1.1 1 2) (M2.1 3 1) M2 o) z1 z2 (some (.int v3)) (some (.long v4)) ((mm_no2 z5)) z7
  · replace h := mm_iq hc h
    refine mm_Runs.seq (l := [(73, .aload_n 0, 1), (74, .lload 4, 2)]) (S2 := (76, [some (.ref 41), z1, z2, some (.int v3), some (.long v4), (mm_no2 z5), some (.int (M1.1 1 2)), z7], [.long v4, .ref 41], (mm_pi M1 3 6 ((M1.1 3 6) + (1 : Int32))))) (by decide +kernel) (hO := mm_own_123) rfl ?_
    refine mm_R_call (v := mm_wv) h hA (k2 := 120) (as := [.ref 41, .long v4]) (r := []) rfl (fun _ => rfl) (fun q hq o ho => ms_120 (by omega) hq ho) (fun _ M3 h => ?_)
    show mm_Runs L xs (d + 1) 123 (79, [some (.ref 41), z1, z2, some (.int v3), some (.long v4), (mm_no2 z5), some (.int (M1.1 1 2)), z7], [], M3) o
    refine mm_Runs.seq (l := [(79, .goto 45, 3)]) (S2 := (124, [some (.ref 41), z1, z2, some (.int v3), some (.long v4), (mm_no2 z5), some (.int (M1.1 1 2)), z7], [], M3)) (by decide +kernel) (hO := mm_own_123) rfl ?_
    exact (ms_123_j124 hd h hA : mp_123_124 L xs (d + 1) (M1.1 1 2) M3 o) z1 z2 (some (.int v3)) (some (.long v4)) ((mm_no2 z5)) z7
noncomputable def mf_123_j27 (v3 : Int32) (s0 : Int64) (M : mm_M) : mm_O Unit := if (M.2.1 41 5) < s0 then (mf_123_j44 v3 s0 (1 : Int32) M) else (mf_123_j44 v3 s0 (0 : Int32) M)
set_option maxRecDepth 8000 in
set_option maxHeartbeats 4000000 in
theorem ms_123_j27 {L : Nat} {xs : Nat → Int32} {d : Nat} (hd : 11 ≤ d) {v3 : Int32} {s0 : Int64} {M : mm_M} {q : (Unit ⊕ Nat) × mm_M} {o : mm_E} (h : mf_123_j27 v3 s0 M = some q) (hA : mm_A (mm_Kr mm_wv) q o) : mp_123_27 L xs d v3 s0 M o := by
  unfold mf_123_j27 at h
  obtain ⟨d, rfl⟩ := mm_d1 (n := 10) hd
  intro z1 z2 z4 z5 z6 z7
  show mm_Runs L xs (d + 1) 123 (27, [some (.ref 41), z1, z2, some (.int v3), z4, z5, z6, z7], [.long s0], M) o
  refine mm_Runs.seq (l := [(27, .lstore 4, 2), (29, .lload 4, 2), (31, .aload_n 0, 1), (32, .getfield 91, 3)]) (S2 := (35, [some (.ref 41), z1, z2, some (.int v3), some (.long s0), none, z6, z7], [.long (M.2.1 41 5), .long s0], M)) (by decide +kernel) (hO := mm_own_123) rfl ?_
  refine mm_R_lle (t := 43) rfl rfl rfl rfl (fun hc => ?_) (fun hc => ?_)
  · replace h := mm_ip hc h
    refine mm_Runs.seq (l := [(39, .iconst 1, 1), (40, .goto 4, 3)]) (S2 := (44, [some (.ref 41), z1, z2, some (.int v3), some (.long s0), none, z6, z7], [.int (1 : Int32)], M)) (by decide +kernel) (hO := mm_own_123) rfl ?_
    exact (ms_123_j44 hd h hA : mp_123_44 L xs (d + 1) v3 s0 (1 : Int32) M o) z1 z2 none z6 z7
  · replace h := mm_iq hc h
    refine mm_Runs.seq (l := [(43, .iconst 0, 1)]) (S2 := (44, [some (.ref 41), z1, z2, some (.int v3), some (.long s0), none, z6, z7], [.int (0 : Int32)], M)) (by decide +kernel) (hO := mm_own_123) rfl ?_
    exact (ms_123_j44 hd h hA : mp_123_44 L xs (d + 1) v3 s0 (0 : Int32) M o) z1 z2 none z6 z7
noncomputable def mf_123_j13 (v1 : Int64) (s0 : Int32) (M : mm_M) : mm_O Unit := if s0 = 0 then (mf_123_j27 s0 v1 M) else (mf_123_j27 s0 (v1 - (2147483648 : Int64)) M)
set_option maxRecDepth 8000 in
set_option maxHeartbeats 4000000 in
theorem ms_123_j13 {L : Nat} {xs : Nat → Int32} {d : Nat} (hd : 11 ≤ d) {v1 : Int64} {s0 : Int32} {M : mm_M} {q : (Unit ⊕ Nat) × mm_M} {o : mm_E} (h : mf_123_j13 v1 s0 M = some q) (hA : mm_A (mm_Kr mm_wv) q o) : mp_123_13 L xs d v1 s0 M o := by
  unfold mf_123_j13 at h
  obtain ⟨d, rfl⟩ := mm_d1 (n := 10) hd
  intro z2 z3 z4 z5 z6 z7
  show mm_Runs L xs (d + 1) 123 (13, [some (.ref 41), some (.long v1), z2, z3, z4, z5, z6, z7], [.int s0], M) o
  refine mm_Runs.seq (l := [(13, .istore_n 3, 1), (14, .iload_n 3, 1)]) (S2 := (15, [some (.ref 41), some (.long v1), (mm_no2 z2), some (.int s0), z4, z5, z6, z7], [.int s0], M)) (by decide +kernel) (hO := mm_own_123) rfl ?_
  refine mm_R_zeq (t := 26) rfl rfl rfl (fun hc => ?_) (fun hc => ?_)
  · replace h := mm_ip hc h
    refine mm_Runs.seq (l := [(26, .lload_n 1, 1)]) (S2 := (27, [some (.ref 41), some (.long v1), (mm_no2 z2), some (.int s0), z4, z5, z6, z7], [.long v1], M)) (by decide +kernel) (hO := mm_own_123) rfl ?_
    exact (ms_123_j27 hd h hA : mp_123_27 L xs (d + 1) s0 v1 M o) (some (.long v1)) ((mm_no2 z2)) z4 z5 z6 z7
  · replace h := mm_iq hc h
    refine mm_Runs.seq (l := [(18, .lload_n 1, 1), (19, .ldc2_w 96, 3), (22, .lsub, 1), (23, .goto 4, 3)]) (S2 := (27, [some (.ref 41), some (.long v1), (mm_no2 z2), some (.int s0), z4, z5, z6, z7], [.long (v1 - (2147483648 : Int64))], M)) (by decide +kernel) (hO := mm_own_123) rfl ?_
    exact (ms_123_j27 hd h hA : mp_123_27 L xs (d + 1) s0 (v1 - (2147483648 : Int64)) M o) (some (.long v1)) ((mm_no2 z2)) z4 z5 z6 z7
noncomputable def mf_123 (v1 : Int64) (M : mm_M) : mm_O Unit := if v1 < (2147483648 : Int64) then (mf_123_j13 v1 (0 : Int32) M) else (mf_123_j13 v1 (1 : Int32) M)
set_option maxRecDepth 8000 in
set_option maxHeartbeats 4000000 in
theorem ms_123 {L : Nat} {xs : Nat → Int32} {d : Nat} (hd : 11 ≤ d) {v1 : Int64} {M : mm_M} {q : (Unit ⊕ Nat) × mm_M} {o : mm_E} (h : mf_123 v1 M = some q) (hA : mm_A (mm_Kr mm_wv) q o) : mm_Runs L xs d 123 (0, mm_ent (mm_ml 123) [.ref 41, .long v1], [], M) o := by
  unfold mf_123 at h
  obtain ⟨d, rfl⟩ := mm_d1 (n := 10) hd
  show mm_Runs L xs (d + 1) 123 (0, [some (.ref 41), some (.long v1), none, none, none, none, none, none], [], M) o
  refine mm_Runs.seq (l := [(0, .lload_n 1, 1), (1, .ldc2_w 96, 3)]) (S2 := (4, [some (.ref 41), some (.long v1), none, none, none, none, none, none], [.long (2147483648 : Int64), .long v1], M)) (by decide +kernel) (hO := mm_own_123) rfl ?_
  refine mm_R_llt (t := 12) rfl rfl rfl rfl (fun hc => ?_) (fun hc => ?_)
  · replace h := mm_ip hc h
    refine mm_Runs.seq (l := [(12, .iconst 0, 1)]) (S2 := (13, [some (.ref 41), some (.long v1), none, none, none, none, none, none], [.int (0 : Int32)], M)) (by decide +kernel) (hO := mm_own_123) rfl ?_
    exact (ms_123_j13 hd h hA : mp_123_13 L xs (d + 1) v1 (0 : Int32) M o) none none none none none none
  · replace h := mm_iq hc h
    refine mm_Runs.seq (l := [(8, .iconst 1, 1), (9, .goto 4, 3)]) (S2 := (13, [some (.ref 41), some (.long v1), none, none, none, none, none, none], [.int (1 : Int32)], M)) (by decide +kernel) (hO := mm_own_123) rfl ?_
    exact (ms_123_j13 hd h hA : mp_123_13 L xs (d + 1) v1 (1 : Int32) M o) none none none none none none
