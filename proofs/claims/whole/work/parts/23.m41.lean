/-! MEANINGS 41 -/
-- 22: PlainPacks.least()I (depth 5)
theorem mm_own_22 : mm_own 22 = 0 := rfl
noncomputable def mf_22 (M : mm_M) : mm_O Int32 := if (300 : Int32) < (M.1 1 1) then (some (.inl (-1 : Int32), M)) else (mm_B (mf_97 M) (fun r1 M2 => some (.inl r1, M2)))
set_option maxRecDepth 8000 in
set_option maxHeartbeats 4000000 in
theorem ms_22 {L : Nat} {xs : Nat → Int32} {d : Nat} (hd : 5 ≤ d) {M : mm_M} {q : (Int32 ⊕ Nat) × mm_M} {o : mm_E} (h : mf_22 M = some q) (hA : mm_A (mm_Kr mm_wi) q o) : mm_Runs L xs d 22 (0, mm_ent (mm_ml 22) [.ref 0], [], M) o := by
  unfold mf_22 at h
  obtain ⟨d, rfl⟩ := mm_d1 (n := 4) hd
  show mm_Runs L xs (d + 1) 22 (0, [some (.ref 0)], [], M) o
  refine mm_Runs.seq (l := [(0, .aload_n 0, 1), (1, .getfield 12, 3), (4, .getfield 90, 3), (7, .sipush 300, 3)]) (S2 := (10, [some (.ref 0)], [.int (300 : Int32), .int (M.1 1 1)], M)) (by decide +kernel) (hO := mm_own_22) rfl ?_
  refine mm_R_ile (t := 15) rfl rfl rfl (fun hc => ?_) (fun hc => ?_)
  · replace h := mm_ip hc h
    refine mm_Runs.seq (l := [(13, .iconst (-1), 1)]) (S2 := (14, [some (.ref 0)], [.int (-1 : Int32)], M)) (by decide +kernel) (hO := mm_own_22) rfl ?_
    cases h
    exact mm_R_reti rfl rfl hA
  · replace h := mm_iq hc h
    refine mm_Runs.seq (l := [(15, .aload_n 0, 1), (16, .getfield 47, 3)]) (S2 := (19, [some (.ref 0)], [.ref 16], M)) (by decide +kernel) (hO := mm_own_22) rfl ?_
    refine mm_R_call (v := mm_wi) h hA (k2 := 97) (as := [.ref 16]) (r := []) rfl (fun _ => rfl) (fun q hq o ho => ms_97 (by omega) hq ho) (fun r1 M2 h => ?_)
    show mm_Runs L xs (d + 1) 22 (22, [some (.ref 0)], [.int r1], M2) o
    cases h
    exact mm_R_reti rfl rfl hA
-- 286: PlainPacksModel.lettersBits(I)I (depth 0)
theorem mm_own_286 : mm_own 286 = 12 := rfl
noncomputable def mf_286 (v0 : Int32) (M : mm_M) : mm_O Int32 := if v0 < (144 : Int32) then (some (.inl (8 : Int32), M)) else (if v0 < (256 : Int32) then (some (.inl (9 : Int32), M)) else (if v0 < (280 : Int32) then (some (.inl (7 : Int32), M)) else (some (.inl (8 : Int32), M))))
set_option maxRecDepth 8000 in
set_option maxHeartbeats 4000000 in
theorem ms_286 {L : Nat} {xs : Nat → Int32} {d : Nat} (hd : 0 ≤ d) {v0 : Int32} {M : mm_M} {q : (Int32 ⊕ Nat) × mm_M} {o : mm_E} (h : mf_286 v0 M = some q) (hA : mm_A (mm_Kr mm_wi) q o) : mm_Runs L xs d 286 (0, mm_ent (mm_ml 286) [.int v0], [], M) o := by
  unfold mf_286 at h
  show mm_Runs L xs (d) 286 (0, [some (.int v0)], [], M) o
  refine mm_Runs.seq (l := [(0, .iload_n 0, 1), (1, .sipush 144, 3)]) (S2 := (4, [some (.int v0)], [.int (144 : Int32), .int v0], M)) (by decide +kernel) (hO := mm_own_286) rfl ?_
  refine mm_R_ige (t := 12) rfl rfl rfl (fun hc => ?_) (fun hc => ?_)
  · replace h := mm_ip hc h
    refine mm_Runs.seq (l := [(7, .bipush 8, 2), (9, .goto 29, 3)]) (S2 := (38, [some (.int v0)], [.int (8 : Int32)], M)) (by decide +kernel) (hO := mm_own_286) rfl ?_
    cases h
    exact mm_R_reti rfl rfl hA
  · replace h := mm_iq hc h
    refine mm_Runs.seq (l := [(12, .iload_n 0, 1), (13, .sipush 256, 3)]) (S2 := (16, [some (.int v0)], [.int (256 : Int32), .int v0], M)) (by decide +kernel) (hO := mm_own_286) rfl ?_
    refine mm_R_ige (t := 24) rfl rfl rfl (fun hc => ?_) (fun hc => ?_)
    · replace h := mm_ip hc h
      refine mm_Runs.seq (l := [(19, .bipush 9, 2), (21, .goto 17, 3)]) (S2 := (38, [some (.int v0)], [.int (9 : Int32)], M)) (by decide +kernel) (hO := mm_own_286) rfl ?_
      cases h
      exact mm_R_reti rfl rfl hA
    · replace h := mm_iq hc h
      refine mm_Runs.seq (l := [(24, .iload_n 0, 1), (25, .sipush 280, 3)]) (S2 := (28, [some (.int v0)], [.int (280 : Int32), .int v0], M)) (by decide +kernel) (hO := mm_own_286) rfl ?_
      refine mm_R_ige (t := 36) rfl rfl rfl (fun hc => ?_) (fun hc => ?_)
      · replace h := mm_ip hc h
        refine mm_Runs.seq (l := [(31, .bipush 7, 2), (33, .goto 5, 3)]) (S2 := (38, [some (.int v0)], [.int (7 : Int32)], M)) (by decide +kernel) (hO := mm_own_286) rfl ?_
        cases h
        exact mm_R_reti rfl rfl hA
      · replace h := mm_iq hc h
        refine mm_Runs.seq (l := [(36, .bipush 8, 2)]) (S2 := (38, [some (.int v0)], [.int (8 : Int32)], M)) (by decide +kernel) (hO := mm_own_286) rfl ?_
        cases h
        exact mm_R_reti rfl rfl hA
-- 287: PlainPacksModel.least()I (depth 2)
theorem mm_own_287 : mm_own 287 = 12 := rfl
def mp_287_35 (L : Nat) (xs : Nat → Int32) (d : Nat) (v1 : Int32) (M : mm_M) (o : mm_E) : Prop := ∀ z2 z3 z4 z5 z6 z7 : Option Value, mm_Runs L xs d 287 (35, [some (.ref 84), some (.int v1), z2, z3, z4, z5, z6, z7], [], M) o
def mp_287_198 (L : Nat) (xs : Nat → Int32) (d : Nat) (M : mm_M) (o : mm_E) : Prop := ∀ z1 z2 z3 z4 z5 z6 z7 : Option Value, mm_Runs L xs d 287 (198, [some (.ref 84), z1, z2, z3, z4, z5, z6, z7], [], M) o
def mp_287_60 (L : Nat) (xs : Nat → Int32) (d : Nat) (v1 : Int32) (v2 : Int32) (v3 : Int32) (M : mm_M) (o : mm_E) : Prop := ∀ z4 z5 z6 z7 : Option Value, mm_Runs L xs d 287 (60, [some (.ref 84), some (.int v1), some (.int v2), some (.int v3), z4, z5, z6, z7], [], M) o
def mp_287_185 (L : Nat) (xs : Nat → Int32) (d : Nat) (v1 : Int32) (v2 : Int32) (M : mm_M) (o : mm_E) : Prop := ∀ z3 z4 z5 z6 z7 : Option Value, mm_Runs L xs d 287 (185, [some (.ref 84), some (.int v1), some (.int v2), z3, z4, z5, z6, z7], [], M) o
def mp_287_79 (L : Nat) (xs : Nat → Int32) (d : Nat) (v1 : Int32) (v2 : Int32) (v3 : Int32) (v4 : Int32) (v5 : Int32) (M : mm_M) (o : mm_E) : Prop := ∀ z6 z7 : Option Value, mm_Runs L xs d 287 (79, [some (.ref 84), some (.int v1), some (.int v2), some (.int v3), some (.int v4), some (.int v5), z6, z7], [], M) o
def mp_287_179 (L : Nat) (xs : Nat → Int32) (d : Nat) (v1 : Int32) (v2 : Int32) (v3 : Int32) (M : mm_M) (o : mm_E) : Prop := ∀ z4 z5 z6 z7 : Option Value, mm_Runs L xs d 287 (179, [some (.ref 84), some (.int v1), some (.int v2), some (.int v3), z4, z5, z6, z7], [], M) o
noncomputable def mf_287_b79 (v1 : Int32) (v2 : Int32) (v3 : Int32) (v4 : Int32) (v5 : Int32) (M : mm_M) : mm_O ((Int32 × Int32) ⊕ (Int32)) := if (v1 + v5) < (M.1 84 2) then (if v5 < (258 : Int32) then (if mm_in (v1 + v5) 10000 then if mm_in ((v1 + v5) - v3) 10000 then if (M.1 85 (v1 + v5).toNatClampNeg) = (M.1 85 ((v1 + v5) - v3).toNatClampNeg) then (if (v5 + (1 : Int32)) < (3 : Int32) then (some (.inl (.inl (v2, (v5 + (1 : Int32)))), M)) else (mm_B (mf_254 (v5 + (1 : Int32)) M) (fun r1 M2 => mm_B (mf_286 r1 M2) (fun r3 M4 => mm_B (mf_258 r1 M4) (fun r5 M6 => if mm_in (v1 + (v5 + (1 : Int32))) 301 then if (((r3 + r5) + v4) + (M6.1 107 (v1 + (v5 + (1 : Int32))).toNatClampNeg)) < v2 then (some (.inl (.inl ((((r3 + r5) + v4) + (M6.1 107 (v1 + (v5 + (1 : Int32))).toNatClampNeg)), (v5 + (1 : Int32)))), M6)) else (some (.inl (.inl (v2, (v5 + (1 : Int32)))), M6)) else none))))) else (some (.inl (.inr v2), M)) else none else none) else (some (.inl (.inr v2), M))) else (some (.inl (.inr v2), M))
noncomputable def mf_287_L79 (v1 : Int32) (v3 : Int32) (v4 : Int32) (s : Int32 × Int32) (M : mm_M) : mm_O (Int32) := mm_L (fun s M => mf_287_b79 v1 s.1 v3 v4 s.2 M) s M
set_option maxRecDepth 8000 in
set_option maxHeartbeats 4000000 in
theorem ms_287_b79 {L : Nat} {xs : Nat → Int32} {d : Nat} (hd : 2 ≤ d) {v1 : Int32} {v2 : Int32} {v3 : Int32} {v4 : Int32} {v5 : Int32} {M : mm_M} {q : (((Int32 × Int32) ⊕ (Int32)) ⊕ Nat) × mm_M} {o : mm_E} (h : mf_287_b79 v1 v2 v3 v4 v5 M = some q) (hA : mm_A (mm_K2 (fun s M o => mp_287_79 L xs (d) v1 s.1 v3 v4 s.2 M o) (fun r M o => mp_287_179 L xs (d) v1 r v3 M o)) q o) : mp_287_79 L xs d v1 v2 v3 v4 v5 M o := by
  unfold mf_287_b79 at h
  obtain ⟨d, rfl⟩ := mm_d1 (n := 1) hd
  intro z6 z7
  show mm_Runs L xs (d + 1) 287 (79, [some (.ref 84), some (.int v1), some (.int v2), some (.int v3), some (.int v4), some (.int v5), z6, z7], [], M) o
  refine mm_Runs.seq (l := [(79, .iload_n 1, 1), (80, .iload 5, 2), (82, .iadd, 1), (83, .aload_n 0, 1), (84, .getfield 91, 3)]) (S2 := (87, [some (.ref 84), some (.int v1), some (.int v2), some (.int v3), some (.int v4), some (.int v5), z6, z7], [.int (M.1 84 2), .int (v1 + v5)], M)) (by decide +kernel) (hO := mm_own_287) rfl ?_
  refine mm_R_ige (t := 179) rfl rfl rfl (fun hc => ?_) (fun hc => ?_)
  · replace h := mm_ip hc h
    refine mm_Runs.seq (l := [(90, .iload 5, 2), (92, .sipush 258, 3)]) (S2 := (95, [some (.ref 84), some (.int v1), some (.int v2), some (.int v3), some (.int v4), some (.int v5), z6, z7], [.int (258 : Int32), .int v5], M)) (by decide +kernel) (hO := mm_own_287) rfl ?_
    refine mm_R_ige (t := 179) rfl rfl rfl (fun hc => ?_) (fun hc => ?_)
    · replace h := mm_ip hc h
      refine mm_Runs.seq (l := [(98, .aload_n 0, 1), (99, .getfield 7, 3), (102, .iload_n 1, 1), (103, .iload 5, 2), (105, .iadd, 1)]) (S2 := (106, [some (.ref 84), some (.int v1), some (.int v2), some (.int v3), some (.int v4), some (.int v5), z6, z7], [.int (v1 + v5), .ref 85], M)) (by decide +kernel) (hO := mm_own_287) rfl ?_
      obtain ⟨hb, h⟩ := mm_gd h
      refine mm_R_iald rfl rfl hb ?_
      refine mm_Runs.seq (l := [(107, .aload_n 0, 1), (108, .getfield 7, 3), (111, .iload_n 1, 1), (112, .iload 5, 2), (114, .iadd, 1), (115, .iload_n 3, 1), (116, .isub, 1)]) (S2 := (117, [some (.ref 84), some (.int v1), some (.int v2), some (.int v3), some (.int v4), some (.int v5), z6, z7], [.int ((v1 + v5) - v3), .ref 85, .int (M.1 85 (v1 + v5).toNatClampNeg)], M)) (by decide +kernel) (hO := mm_own_287) rfl ?_
      obtain ⟨hb, h⟩ := mm_gd h
      refine mm_R_iald rfl rfl hb ?_
      refine mm_R_ine (t := 179) rfl rfl rfl (fun hc => ?_) (fun hc => ?_)
      · replace h := mm_ip hc h
        refine mm_Runs.seq (l := [(121, .iinc 5 1, 3), (124, .iload 5, 2), (126, .iconst 3, 1)]) (S2 := (127, [some (.ref 84), some (.int v1), some (.int v2), some (.int v3), some (.int v4), some (.int (v5 + (1 : Int32))), z6, z7], [.int (3 : Int32), .int (v5 + (1 : Int32))], M)) (by decide +kernel) (hO := mm_own_287) rfl ?_
        refine mm_R_ilt (t := 79) rfl rfl rfl (fun hc => ?_) (fun hc => ?_)
        · replace h := mm_ip hc h
          cases h
          exact (show mp_287_79 L xs (d + 1) v1 v2 v3 v4 (v5 + (1 : Int32)) M o from hA) z6 z7
        · replace h := mm_iq hc h
          refine mm_Runs.seq (l := [(130, .iload 5, 2)]) (S2 := (132, [some (.ref 84), some (.int v1), some (.int v2), some (.int v3), some (.int v4), some (.int (v5 + (1 : Int32))), z6, z7], [.int (v5 + (1 : Int32))], M)) (by decide +kernel) (hO := mm_own_287) rfl ?_
          refine mm_R_call (v := mm_wi) h hA (k2 := 254) (as := [.int (v5 + (1 : Int32))]) (r := []) rfl (fun _ => rfl) (fun q hq o ho => ms_254 (by omega) hq ho) (fun r1 M2 h => ?_)
          show mm_Runs L xs (d + 1) 287 (135, [some (.ref 84), some (.int v1), some (.int v2), some (.int v3), some (.int v4), some (.int (v5 + (1 : Int32))), z6, z7], [.int r1], M2) o
          refine mm_Runs.seq (l := [(135, .istore 6, 2), (137, .iload 6, 2)]) (S2 := (139, [some (.ref 84), some (.int v1), some (.int v2), some (.int v3), some (.int v4), some (.int (v5 + (1 : Int32))), some (.int r1), z7], [.int r1], M2)) (by decide +kernel) (hO := mm_own_287) rfl ?_
          refine mm_R_call (v := mm_wi) h hA (k2 := 286) (as := [.int r1]) (r := []) rfl (fun _ => rfl) (fun q hq o ho => ms_286 (by omega) hq ho) (fun r3 M4 h => ?_)
          show mm_Runs L xs (d + 1) 287 (142, [some (.ref 84), some (.int v1), some (.int v2), some (.int v3), some (.int v4), some (.int (v5 + (1 : Int32))), some (.int r1), z7], [.int r3], M4) o
          refine mm_Runs.seq (l := [(142, .iload 6, 2)]) (S2 := (144, [some (.ref 84), some (.int v1), some (.int v2), some (.int v3), some (.int v4), some (.int (v5 + (1 : Int32))), some (.int r1), z7], [.int r1, .int r3], M4)) (by decide +kernel) (hO := mm_own_287) rfl ?_
          refine mm_R_call (v := mm_wi) h hA (k2 := 258) (as := [.int r1]) (r := [.int r3]) rfl (fun _ => rfl) (fun q hq o ho => ms_258 (by omega) hq ho) (fun r5 M6 h => ?_)
          show mm_Runs L xs (d + 1) 287 (147, [some (.ref 84), some (.int v1), some (.int v2), some (.int v3), some (.int v4), some (.int (v5 + (1 : Int32))), some (.int r1), z7], [.int r5, .int r3], M6) o
          refine mm_Runs.seq (l := [(147, .iadd, 1), (148, .iload 4, 2), (150, .iadd, 1), (151, .aload_n 0, 1), (152, .getfield 78, 3), (155, .iload_n 1, 1), (156, .iload 5, 2), (158, .iadd, 1)]) (S2 := (159, [some (.ref 84), some (.int v1), some (.int v2), some (.int v3), some (.int v4), some (.int (v5 + (1 : Int32))), some (.int r1), z7], [.int (v1 + (v5 + (1 : Int32))), .ref 107, .int ((r3 + r5) + v4)], M6)) (by decide +kernel) (hO := mm_own_287) rfl ?_
          obtain ⟨hb, h⟩ := mm_gd h
          refine mm_R_iald rfl rfl hb ?_
          refine mm_Runs.seq (l := [(160, .iadd, 1), (161, .istore 7, 2), (163, .iload 7, 2), (165, .iload_n 2, 1)]) (S2 := (166, [some (.ref 84), some (.int v1), some (.int v2), some (.int v3), some (.int v4), some (.int (v5 + (1 : Int32))), some (.int r1), some (.int (((r3 + r5) + v4) + (M6.1 107 (v1 + (v5 + (1 : Int32))).toNatClampNeg)))], [.int v2, .int (((r3 + r5) + v4) + (M6.1 107 (v1 + (v5 + (1 : Int32))).toNatClampNeg))], M6)) (by decide +kernel) (hO := mm_own_287) rfl ?_
          refine mm_R_ige (t := 174) rfl rfl rfl (fun hc => ?_) (fun hc => ?_)
          · replace h := mm_ip hc h
            refine mm_Runs.seq (l := [(169, .iload 7, 2), (171, .goto 4, 3), (175, .istore_n 2, 1), (176, .goto (-97), 3)]) (S2 := (79, [some (.ref 84), some (.int v1), some (.int (((r3 + r5) + v4) + (M6.1 107 (v1 + (v5 + (1 : Int32))).toNatClampNeg))), some (.int v3), some (.int v4), some (.int (v5 + (1 : Int32))), some (.int r1), some (.int (((r3 + r5) + v4) + (M6.1 107 (v1 + (v5 + (1 : Int32))).toNatClampNeg)))], [], M6)) (by decide +kernel) (hO := mm_own_287) rfl ?_
            cases h
            exact (show mp_287_79 L xs (d + 1) v1 (((r3 + r5) + v4) + (M6.1 107 (v1 + (v5 + (1 : Int32))).toNatClampNeg)) v3 v4 (v5 + (1 : Int32)) M6 o from hA) (some (.int r1)) (some (.int (((r3 + r5) + v4) + (M6.1 107 (v1 + (v5 + (1 : Int32))).toNatClampNeg))))
          · replace h := mm_iq hc h
            refine mm_Runs.seq (l := [(174, .iload_n 2, 1), (175, .istore_n 2, 1), (176, .goto (-97), 3)]) (S2 := (79, [some (.ref 84), some (.int v1), some (.int v2), some (.int v3), some (.int v4), some (.int (v5 + (1 : Int32))), some (.int r1), some (.int (((r3 + r5) + v4) + (M6.1 107 (v1 + (v5 + (1 : Int32))).toNatClampNeg)))], [], M6)) (by decide +kernel) (hO := mm_own_287) rfl ?_
            cases h
            exact (show mp_287_79 L xs (d + 1) v1 v2 v3 v4 (v5 + (1 : Int32)) M6 o from hA) (some (.int r1)) (some (.int (((r3 + r5) + v4) + (M6.1 107 (v1 + (v5 + (1 : Int32))).toNatClampNeg))))
      · replace h := mm_iq hc h
        cases h
        exact (show mp_287_179 L xs (d + 1) v1 v2 v3 M o from hA) (some (.int v4)) (some (.int v5)) z6 z7
    · replace h := mm_iq hc h
      cases h
      exact (show mp_287_179 L xs (d + 1) v1 v2 v3 M o from hA) (some (.int v4)) (some (.int v5)) z6 z7
  · replace h := mm_iq hc h
    cases h
    exact (show mp_287_179 L xs (d + 1) v1 v2 v3 M o from hA) (some (.int v4)) (some (.int v5)) z6 z7
theorem ms_287_L79 {L : Nat} {xs : Nat → Int32} {d : Nat} (hd : 2 ≤ d) {v1 : Int32} {v2 : Int32} {v3 : Int32} {v4 : Int32} {v5 : Int32} {β : Type} {K : β → mm_M → mm_E → Prop} {F : (Int32) → mm_M → mm_O β} {M : mm_M} {q : (β ⊕ Nat) × mm_M} {o : mm_E} (h : mm_B (mf_287_L79 v1 v3 v4 (v2, v5) M) F = some q) (hA : mm_A K q o) (hx : ∀ (r : (Int32)) (M2 : mm_M), F r M2 = some q → (fun r M o => mp_287_179 L xs (d) v1 r v3 M o) r M2 o) : mp_287_79 L xs d v1 v2 v3 v4 v5 M o := mm_R_loop (s := (v2, v5)) (M := M) (P := (fun s M o => mp_287_79 L xs (d) v1 s.1 v3 v4 s.2 M o)) (X := (fun r M o => mp_287_179 L xs (d) v1 r v3 M o)) h hA (fun s M q hq hA => ms_287_b79 hd hq hA) hx
noncomputable def mf_287_b60 (v1 : Int32) (v2 : Int32) (v3 : Int32) (M : mm_M) : mm_O ((Int32 × Int32) ⊕ (Int32)) := if v1 < v3 then (some (.inl (.inr v2), M)) else (mm_B (mf_257 v3 M) (fun r1 M2 => mm_B (mf_259 r1 M2) (fun r3 M4 => mm_B (mf_287_L79 v1 v3 ((5 : Int32) + r3) (v2, (0 : Int32)) M4) (fun r6 M5 => some (.inl (.inl (r6, (v3 + (1 : Int32)))), M5)))))
noncomputable def mf_287_L60 (v1 : Int32) (s : Int32 × Int32) (M : mm_M) : mm_O (Int32) := mm_L (fun s M => mf_287_b60 v1 s.1 s.2 M) s M
set_option maxRecDepth 8000 in
set_option maxHeartbeats 4000000 in
theorem ms_287_b60 {L : Nat} {xs : Nat → Int32} {d : Nat} (hd : 2 ≤ d) {v1 : Int32} {v2 : Int32} {v3 : Int32} {M : mm_M} {q : (((Int32 × Int32) ⊕ (Int32)) ⊕ Nat) × mm_M} {o : mm_E} (h : mf_287_b60 v1 v2 v3 M = some q) (hA : mm_A (mm_K2 (fun s M o => mp_287_60 L xs (d) v1 s.1 s.2 M o) (fun r M o => mp_287_185 L xs (d) v1 r M o)) q o) : mp_287_60 L xs d v1 v2 v3 M o := by
  unfold mf_287_b60 at h
  obtain ⟨d, rfl⟩ := mm_d1 (n := 1) hd
  intro z4 z5 z6 z7
  show mm_Runs L xs (d + 1) 287 (60, [some (.ref 84), some (.int v1), some (.int v2), some (.int v3), z4, z5, z6, z7], [], M) o
  refine mm_Runs.seq (l := [(60, .iload_n 3, 1), (61, .iload_n 1, 1)]) (S2 := (62, [some (.ref 84), some (.int v1), some (.int v2), some (.int v3), z4, z5, z6, z7], [.int v1, .int v3], M)) (by decide +kernel) (hO := mm_own_287) rfl ?_
  refine mm_R_igt (t := 185) rfl rfl rfl (fun hc => ?_) (fun hc => ?_)
  · replace h := mm_ip hc h
    cases h
    exact (show mp_287_185 L xs (d + 1) v1 v2 M o from hA) (some (.int v3)) z4 z5 z6 z7
  · replace h := mm_iq hc h
    refine mm_Runs.seq (l := [(65, .iconst 5, 1), (66, .iload_n 3, 1)]) (S2 := (67, [some (.ref 84), some (.int v1), some (.int v2), some (.int v3), z4, z5, z6, z7], [.int v3, .int (5 : Int32)], M)) (by decide +kernel) (hO := mm_own_287) rfl ?_
    refine mm_R_call (v := mm_wi) h hA (k2 := 257) (as := [.int v3]) (r := [.int (5 : Int32)]) rfl (fun _ => rfl) (fun q hq o ho => ms_257 (by omega) hq ho) (fun r1 M2 h => ?_)
    show mm_Runs L xs (d + 1) 287 (70, [some (.ref 84), some (.int v1), some (.int v2), some (.int v3), z4, z5, z6, z7], [.int r1, .int (5 : Int32)], M2) o
    refine mm_R_call (v := mm_wi) h hA (k2 := 259) (as := [.int r1]) (r := [.int (5 : Int32)]) rfl (fun _ => rfl) (fun q hq o ho => ms_259 (by omega) hq ho) (fun r3 M4 h => ?_)
    show mm_Runs L xs (d + 1) 287 (73, [some (.ref 84), some (.int v1), some (.int v2), some (.int v3), z4, z5, z6, z7], [.int r3, .int (5 : Int32)], M4) o
    refine mm_Runs.seq (l := [(73, .iadd, 1), (74, .istore 4, 2), (76, .iconst 0, 1), (77, .istore 5, 2)]) (S2 := (79, [some (.ref 84), some (.int v1), some (.int v2), some (.int v3), some (.int ((5 : Int32) + r3)), some (.int (0 : Int32)), z6, z7], [], M4)) (by decide +kernel) (hO := mm_own_287) rfl ?_
    have hp : mp_287_79 L xs (d + 1) v1 v2 v3 ((5 : Int32) + r3) (0 : Int32) M4 o := by
      refine ms_287_L79 hd h hA (fun r6 M5 h => ?_)
      intro y7 y8 y9 y10
      show mm_Runs L xs (d + 1) 287 (179, [some (.ref 84), some (.int v1), some (.int r6), some (.int v3), y7, y8, y9, y10], [], M5) o
      refine mm_Runs.seq (l := [(179, .iinc 3 1, 3), (182, .goto (-122), 3)]) (S2 := (60, [some (.ref 84), some (.int v1), some (.int r6), some (.int (v3 + (1 : Int32))), y7, y8, y9, y10], [], M5)) (by decide +kernel) (hO := mm_own_287) rfl ?_
      cases h
      exact (show mp_287_60 L xs (d + 1) v1 r6 (v3 + (1 : Int32)) M5 o from hA) y7 y8 y9 y10
    exact hp z6 z7
theorem ms_287_L60 {L : Nat} {xs : Nat → Int32} {d : Nat} (hd : 2 ≤ d) {v1 : Int32} {v2 : Int32} {v3 : Int32} {β : Type} {K : β → mm_M → mm_E → Prop} {F : (Int32) → mm_M → mm_O β} {M : mm_M} {q : (β ⊕ Nat) × mm_M} {o : mm_E} (h : mm_B (mf_287_L60 v1 (v2, v3) M) F = some q) (hA : mm_A K q o) (hx : ∀ (r : (Int32)) (M2 : mm_M), F r M2 = some q → (fun r M o => mp_287_185 L xs (d) v1 r M o) r M2 o) : mp_287_60 L xs d v1 v2 v3 M o := mm_R_loop (s := (v2, v3)) (M := M) (P := (fun s M o => mp_287_60 L xs (d) v1 s.1 s.2 M o)) (X := (fun r M o => mp_287_185 L xs (d) v1 r M o)) h hA (fun s M q hq hA => ms_287_b60 hd hq hA) hx
noncomputable def mf_287_j185 (v1 : Int32) (v2 : Int32) (M : mm_M) : mm_O ((Int32) ⊕ (Unit)) := if mm_in v1 301 then some (.inl (.inl (v1 + (-1 : Int32))), (mm_pi M 107 v1.toNatClampNeg v2)) else none
set_option maxRecDepth 8000 in
set_option maxHeartbeats 4000000 in
theorem ms_287_j185 {L : Nat} {xs : Nat → Int32} {d : Nat} (hd : 2 ≤ d) {v1 : Int32} {v2 : Int32} {M : mm_M} {q : (((Int32) ⊕ (Unit)) ⊕ Nat) × mm_M} {o : mm_E} (h : mf_287_j185 v1 v2 M = some q) (hA : mm_A (mm_K2 (fun s M o => mp_287_35 L xs (d) s M o) (fun r M o => mp_287_198 L xs (d) M o)) q o) : mp_287_185 L xs d v1 v2 M o := by
  unfold mf_287_j185 at h
  obtain ⟨d, rfl⟩ := mm_d1 (n := 1) hd
  intro z3 z4 z5 z6 z7
  show mm_Runs L xs (d + 1) 287 (185, [some (.ref 84), some (.int v1), some (.int v2), z3, z4, z5, z6, z7], [], M) o
  refine mm_Runs.seq (l := [(185, .aload_n 0, 1), (186, .getfield 78, 3), (189, .iload_n 1, 1), (190, .iload_n 2, 1)]) (S2 := (191, [some (.ref 84), some (.int v1), some (.int v2), z3, z4, z5, z6, z7], [.int v2, .int v1, .ref 107], M)) (by decide +kernel) (hO := mm_own_287) rfl ?_
  obtain ⟨hb, h⟩ := mm_gd h
  refine mm_R_iast rfl rfl hb ?_
  refine mm_Runs.seq (l := [(192, .iinc 1 (-1), 3), (195, .goto (-160), 3)]) (S2 := (35, [some (.ref 84), some (.int (v1 + (-1 : Int32))), some (.int v2), z3, z4, z5, z6, z7], [], (mm_pi M 107 v1.toNatClampNeg v2))) (by decide +kernel) (hO := mm_own_287) rfl ?_
  cases h
  exact (show mp_287_35 L xs (d + 1) (v1 + (-1 : Int32)) (mm_pi M 107 v1.toNatClampNeg v2) o from hA) (some (.int v2)) z3 z4 z5 z6 z7
noncomputable def mf_287_b35 (v1 : Int32) (M : mm_M) : mm_O ((Int32) ⊕ (Unit)) := if v1 < 0 then (some (.inl (.inr ()), M)) else (if mm_in v1 10000 then mm_B (mf_286 (M.1 85 v1.toNatClampNeg) M) (fun r1 M2 => if mm_in (v1 + (1 : Int32)) 301 then mm_B (mf_287_L60 v1 ((r1 + (M2.1 107 (v1 + (1 : Int32)).toNatClampNeg)), (1 : Int32)) M2) (fun r4 M3 => mf_287_j185 v1 r4 M3) else none) else none)
noncomputable def mf_287_L35 (s : Int32) (M : mm_M) : mm_O (Unit) := mm_L (fun s M => mf_287_b35 s M) s M
set_option maxRecDepth 8000 in
set_option maxHeartbeats 4000000 in
theorem ms_287_b35 {L : Nat} {xs : Nat → Int32} {d : Nat} (hd : 2 ≤ d) {v1 : Int32} {M : mm_M} {q : (((Int32) ⊕ (Unit)) ⊕ Nat) × mm_M} {o : mm_E} (h : mf_287_b35 v1 M = some q) (hA : mm_A (mm_K2 (fun s M o => mp_287_35 L xs (d) s M o) (fun r M o => mp_287_198 L xs (d) M o)) q o) : mp_287_35 L xs d v1 M o := by
  unfold mf_287_b35 at h
  obtain ⟨d, rfl⟩ := mm_d1 (n := 1) hd
  intro z2 z3 z4 z5 z6 z7
  show mm_Runs L xs (d + 1) 287 (35, [some (.ref 84), some (.int v1), z2, z3, z4, z5, z6, z7], [], M) o
  refine mm_Runs.seq (l := [(35, .iload_n 1, 1)]) (S2 := (36, [some (.ref 84), some (.int v1), z2, z3, z4, z5, z6, z7], [.int v1], M)) (by decide +kernel) (hO := mm_own_287) rfl ?_
  refine mm_R_zlt (t := 198) rfl rfl rfl (fun hc => ?_) (fun hc => ?_)
  · replace h := mm_ip hc h
    cases h
    exact (show mp_287_198 L xs (d + 1) M o from hA) (some (.int v1)) z2 z3 z4 z5 z6 z7
  · replace h := mm_iq hc h
    refine mm_Runs.seq (l := [(39, .aload_n 0, 1), (40, .getfield 7, 3), (43, .iload_n 1, 1)]) (S2 := (44, [some (.ref 84), some (.int v1), z2, z3, z4, z5, z6, z7], [.int v1, .ref 85], M)) (by decide +kernel) (hO := mm_own_287) rfl ?_
    obtain ⟨hb, h⟩ := mm_gd h
    refine mm_R_iald rfl rfl hb ?_
    refine mm_R_call (v := mm_wi) h hA (k2 := 286) (as := [.int (M.1 85 v1.toNatClampNeg)]) (r := []) rfl (fun _ => rfl) (fun q hq o ho => ms_286 (by omega) hq ho) (fun r1 M2 h => ?_)
    show mm_Runs L xs (d + 1) 287 (48, [some (.ref 84), some (.int v1), z2, z3, z4, z5, z6, z7], [.int r1], M2) o
    refine mm_Runs.seq (l := [(48, .aload_n 0, 1), (49, .getfield 78, 3), (52, .iload_n 1, 1), (53, .iconst 1, 1), (54, .iadd, 1)]) (S2 := (55, [some (.ref 84), some (.int v1), z2, z3, z4, z5, z6, z7], [.int (v1 + (1 : Int32)), .ref 107, .int r1], M2)) (by decide +kernel) (hO := mm_own_287) rfl ?_
    obtain ⟨hb, h⟩ := mm_gd h
    refine mm_R_iald rfl rfl hb ?_
    refine mm_Runs.seq (l := [(56, .iadd, 1), (57, .istore_n 2, 1), (58, .iconst 1, 1), (59, .istore_n 3, 1)]) (S2 := (60, [some (.ref 84), some (.int v1), some (.int (r1 + (M2.1 107 (v1 + (1 : Int32)).toNatClampNeg))), some (.int (1 : Int32)), z4, z5, z6, z7], [], M2)) (by decide +kernel) (hO := mm_own_287) rfl ?_
    have hp : mp_287_60 L xs (d + 1) v1 (r1 + (M2.1 107 (v1 + (1 : Int32)).toNatClampNeg)) (1 : Int32) M2 o := by
      refine ms_287_L60 hd h hA (fun r4 M3 h => ?_)
      intro y5 y6 y7 y8 y9
      show mm_Runs L xs (d + 1) 287 (185, [some (.ref 84), some (.int v1), some (.int r4), y5, y6, y7, y8, y9], [], M3) o
      exact (ms_287_j185 hd h hA : mp_287_185 L xs (d + 1) v1 r4 M3 o) y5 y6 y7 y8 y9
    exact hp z4 z5 z6 z7
theorem ms_287_L35 {L : Nat} {xs : Nat → Int32} {d : Nat} (hd : 2 ≤ d) {v1 : Int32} {β : Type} {K : β → mm_M → mm_E → Prop} {F : (Unit) → mm_M → mm_O β} {M : mm_M} {q : (β ⊕ Nat) × mm_M} {o : mm_E} (h : mm_B (mf_287_L35 v1 M) F = some q) (hA : mm_A K q o) (hx : ∀ (r : (Unit)) (M2 : mm_M), F r M2 = some q → (fun r M o => mp_287_198 L xs (d) M o) r M2 o) : mp_287_35 L xs d v1 M o := mm_R_loop (s := v1) (M := M) (P := (fun s M o => mp_287_35 L xs (d) s M o)) (X := (fun r M o => mp_287_198 L xs (d) M o)) h hA (fun s M q hq hA => ms_287_b35 hd hq hA) hx
noncomputable def mf_287_j198 (M : mm_M) : mm_O Int32 := if mm_in (0 : Int32) 301 then some (.inl ((3 : Int32) + (M.1 107 (0 : Int32).toNatClampNeg)), M) else none
set_option maxRecDepth 8000 in
set_option maxHeartbeats 4000000 in
theorem ms_287_j198 {L : Nat} {xs : Nat → Int32} {d : Nat} (hd : 2 ≤ d) {M : mm_M} {q : (Int32 ⊕ Nat) × mm_M} {o : mm_E} (h : mf_287_j198 M = some q) (hA : mm_A (mm_Kr mm_wi) q o) : mp_287_198 L xs d M o := by
  unfold mf_287_j198 at h
  obtain ⟨d, rfl⟩ := mm_d1 (n := 1) hd
  intro z1 z2 z3 z4 z5 z6 z7
  show mm_Runs L xs (d + 1) 287 (198, [some (.ref 84), z1, z2, z3, z4, z5, z6, z7], [], M) o
  refine mm_Runs.seq (l := [(198, .iconst 3, 1), (199, .aload_n 0, 1), (200, .getfield 78, 3), (203, .iconst 0, 1)]) (S2 := (204, [some (.ref 84), z1, z2, z3, z4, z5, z6, z7], [.int (0 : Int32), .ref 107, .int (3 : Int32)], M)) (by decide +kernel) (hO := mm_own_287) rfl ?_
  obtain ⟨hb, h⟩ := mm_gd h
  refine mm_R_iald rfl rfl hb ?_
  refine mm_Runs.seq (l := [(205, .iadd, 1)]) (S2 := (206, [some (.ref 84), z1, z2, z3, z4, z5, z6, z7], [.int ((3 : Int32) + (M.1 107 (0 : Int32).toNatClampNeg))], M)) (by decide +kernel) (hO := mm_own_287) rfl ?_
  cases h
  exact mm_R_reti rfl rfl hA
noncomputable def mf_287 (M : mm_M) : mm_O Int32 := if (300 : Int32) < (M.1 84 2) then (some (.inl (-1 : Int32), (mm_pi M 84 0 (0 : Int32)))) else (if mm_in (M.1 84 2) 301 then mm_B (mf_287_L35 ((M.1 84 2) - (1 : Int32)) (mm_pi (mm_pi M 84 0 (0 : Int32)) 107 (M.1 84 2).toNatClampNeg (7 : Int32))) (fun r2 M1 => mf_287_j198 M1) else none)
set_option maxRecDepth 8000 in
set_option maxHeartbeats 4000000 in
theorem ms_287 {L : Nat} {xs : Nat → Int32} {d : Nat} (hd : 2 ≤ d) {M : mm_M} {q : (Int32 ⊕ Nat) × mm_M} {o : mm_E} (h : mf_287 M = some q) (hA : mm_A (mm_Kr mm_wi) q o) : mm_Runs L xs d 287 (0, mm_ent (mm_ml 287) [.ref 84], [], M) o := by
  unfold mf_287 at h
  obtain ⟨d, rfl⟩ := mm_d1 (n := 1) hd
  show mm_Runs L xs (d + 1) 287 (0, [some (.ref 84), none, none, none, none, none, none, none], [], M) o
  refine mm_Runs.seq (l := [(0, .aload_n 0, 1), (1, .iconst 0, 1), (2, .putfield 87, 3), (5, .aload_n 0, 1), (6, .getfield 91, 3), (9, .sipush 300, 3)]) (S2 := (12, [some (.ref 84), none, none, none, none, none, none, none], [.int (300 : Int32), .int (M.1 84 2)], (mm_pi M 84 0 (0 : Int32)))) (by decide +kernel) (hO := mm_own_287) rfl ?_
  refine mm_R_ile (t := 17) rfl rfl rfl (fun hc => ?_) (fun hc => ?_)
  · replace h := mm_ip hc h
    refine mm_Runs.seq (l := [(15, .iconst (-1), 1)]) (S2 := (16, [some (.ref 84), none, none, none, none, none, none, none], [.int (-1 : Int32)], (mm_pi M 84 0 (0 : Int32)))) (by decide +kernel) (hO := mm_own_287) rfl ?_
    cases h
    exact mm_R_reti rfl rfl hA
  · replace h := mm_iq hc h
    refine mm_Runs.seq (l := [(17, .aload_n 0, 1), (18, .getfield 78, 3), (21, .aload_n 0, 1), (22, .getfield 91, 3), (25, .bipush 7, 2)]) (S2 := (27, [some (.ref 84), none, none, none, none, none, none, none], [.int (7 : Int32), .int (M.1 84 2), .ref 107], (mm_pi M 84 0 (0 : Int32)))) (by decide +kernel) (hO := mm_own_287) rfl ?_
    obtain ⟨hb, h⟩ := mm_gd h
    refine mm_R_iast rfl rfl hb ?_
    refine mm_Runs.seq (l := [(28, .aload_n 0, 1), (29, .getfield 91, 3), (32, .iconst 1, 1), (33, .isub, 1), (34, .istore_n 1, 1)]) (S2 := (35, [some (.ref 84), some (.int ((M.1 84 2) - (1 : Int32))), none, none, none, none, none, none], [], (mm_pi (mm_pi M 84 0 (0 : Int32)) 107 (M.1 84 2).toNatClampNeg (7 : Int32)))) (by decide +kernel) (hO := mm_own_287) rfl ?_
    have hp : mp_287_35 L xs (d + 1) ((M.1 84 2) - (1 : Int32)) (mm_pi (mm_pi M 84 0 (0 : Int32)) 107 (M.1 84 2).toNatClampNeg (7 : Int32)) o := by
      refine ms_287_L35 hd h hA (fun r2 M1 h => ?_)
      intro y3 y4 y5 y6 y7 y8 y9
      show mm_Runs L xs (d + 1) 287 (198, [some (.ref 84), y3, y4, y5, y6, y7, y8, y9], [], M1) o
      exact (ms_287_j198 hd h hA : mp_287_198 L xs (d + 1) M1 o) y3 y4 y5 y6 y7 y8 y9
    exact hp none none none none none none
-- 35: PlainPacks.weigh()I (depth 1)
theorem mm_own_35 : mm_own 35 = 0 := rfl
def mp_35_18 (L : Nat) (xs : Nat → Int32) (d : Nat) (v1 : Int32) (M : mm_M) (o : mm_E) : Prop := ∀ z2 : Option Value, mm_Runs L xs d 35 (18, [some (.ref 0), some (.int v1), z2], [], M) o
def mp_35_53 (L : Nat) (xs : Nat → Int32) (d : Nat) (M : mm_M) (o : mm_E) : Prop := ∀ z1 z2 : Option Value, mm_Runs L xs d 35 (53, [some (.ref 0), z1, z2], [], M) o
noncomputable def mf_35_b18 (v1 : Int32) (M : mm_M) : mm_O ((Int32) ⊕ (Unit)) := if v1 < (M.1 1 1) then (if mm_in v1 10000 then if mm_in (M.1 2 v1.toNatClampNeg) 511 then if mm_in (M.1 2 v1.toNatClampNeg) 511 then some (.inl (.inl (v1 + (1 : Int32))), (mm_pi M 82 (M.1 2 v1.toNatClampNeg).toNatClampNeg ((M.1 82 (M.1 2 v1.toNatClampNeg).toNatClampNeg) + (1 : Int32)))) else none else none else none) else (some (.inl (.inr ()), M))
noncomputable def mf_35_L18 (s : Int32) (M : mm_M) : mm_O (Unit) := mm_L (fun s M => mf_35_b18 s M) s M
set_option maxRecDepth 8000 in
set_option maxHeartbeats 4000000 in
theorem ms_35_b18 {L : Nat} {xs : Nat → Int32} {d : Nat} (hd : 1 ≤ d) {v1 : Int32} {M : mm_M} {q : (((Int32) ⊕ (Unit)) ⊕ Nat) × mm_M} {o : mm_E} (h : mf_35_b18 v1 M = some q) (hA : mm_A (mm_K2 (fun s M o => mp_35_18 L xs (d) s M o) (fun r M o => mp_35_53 L xs (d) M o)) q o) : mp_35_18 L xs d v1 M o := by
  unfold mf_35_b18 at h
  obtain ⟨d, rfl⟩ := mm_d1 (n := 0) hd
  intro z2
  show mm_Runs L xs (d + 1) 35 (18, [some (.ref 0), some (.int v1), z2], [], M) o
  refine mm_Runs.seq (l := [(18, .iload_n 1, 1), (19, .aload_n 0, 1), (20, .getfield 12, 3), (23, .getfield 90, 3)]) (S2 := (26, [some (.ref 0), some (.int v1), z2], [.int (M.1 1 1), .int v1], M)) (by decide +kernel) (hO := mm_own_35) rfl ?_
  refine mm_R_ige (t := 53) rfl rfl rfl (fun hc => ?_) (fun hc => ?_)
  · replace h := mm_ip hc h
    refine mm_Runs.seq (l := [(29, .aload_n 0, 1), (30, .getfield 83, 3), (33, .aload_n 0, 1), (34, .getfield 12, 3), (37, .getfield 115, 3), (40, .iload_n 1, 1)]) (S2 := (41, [some (.ref 0), some (.int v1), z2], [.int v1, .ref 2, .ref 82], M)) (by decide +kernel) (hO := mm_own_35) rfl ?_
    obtain ⟨hb, h⟩ := mm_gd h
    refine mm_R_iald rfl rfl hb ?_
    refine mm_Runs.seq (l := [(42, .dup2, 1)]) (S2 := (43, [some (.ref 0), some (.int v1), z2], [.int (M.1 2 v1.toNatClampNeg), .ref 82, .int (M.1 2 v1.toNatClampNeg), .ref 82], M)) (by decide +kernel) (hO := mm_own_35) rfl ?_
    obtain ⟨hb, h⟩ := mm_gd h
    refine mm_R_iald rfl rfl hb ?_
    refine mm_Runs.seq (l := [(44, .iconst 1, 1), (45, .iadd, 1)]) (S2 := (46, [some (.ref 0), some (.int v1), z2], [.int ((M.1 82 (M.1 2 v1.toNatClampNeg).toNatClampNeg) + (1 : Int32)), .int (M.1 2 v1.toNatClampNeg), .ref 82], M)) (by decide +kernel) (hO := mm_own_35) rfl ?_
    obtain ⟨hb, h⟩ := mm_gd h
    refine mm_R_iast rfl rfl hb ?_
    refine mm_Runs.seq (l := [(47, .iinc 1 1, 3), (50, .goto (-32), 3)]) (S2 := (18, [some (.ref 0), some (.int (v1 + (1 : Int32))), z2], [], (mm_pi M 82 (M.1 2 v1.toNatClampNeg).toNatClampNeg ((M.1 82 (M.1 2 v1.toNatClampNeg).toNatClampNeg) + (1 : Int32))))) (by decide +kernel) (hO := mm_own_35) rfl ?_
    cases h
    exact (show mp_35_18 L xs (d + 1) (v1 + (1 : Int32)) (mm_pi M 82 (M.1 2 v1.toNatClampNeg).toNatClampNeg ((M.1 82 (M.1 2 v1.toNatClampNeg).toNatClampNeg) + (1 : Int32))) o from hA) z2
  · replace h := mm_iq hc h
    cases h
    exact (show mp_35_53 L xs (d + 1) M o from hA) (some (.int v1)) z2
theorem ms_35_L18 {L : Nat} {xs : Nat → Int32} {d : Nat} (hd : 1 ≤ d) {v1 : Int32} {β : Type} {K : β → mm_M → mm_E → Prop} {F : (Unit) → mm_M → mm_O β} {M : mm_M} {q : (β ⊕ Nat) × mm_M} {o : mm_E} (h : mm_B (mf_35_L18 v1 M) F = some q) (hA : mm_A K q o) (hx : ∀ (r : (Unit)) (M2 : mm_M), F r M2 = some q → (fun r M o => mp_35_53 L xs (d) M o) r M2 o) : mp_35_18 L xs d v1 M o := mm_R_loop (s := v1) (M := M) (P := (fun s M o => mp_35_18 L xs (d) s M o)) (X := (fun r M o => mp_35_53 L xs (d) M o)) h hA (fun s M q hq hA => ms_35_b18 hd hq hA) hx
def mp_35_57 (L : Nat) (xs : Nat → Int32) (d : Nat) (v1 : Int32) (v2 : Int32) (M : mm_M) (o : mm_E) : Prop := mm_Runs L xs d 35 (57, [some (.ref 0), some (.int v1), some (.int v2)], [], M) o
def mp_35_82 (L : Nat) (xs : Nat → Int32) (d : Nat) (v1 : Int32) (M : mm_M) (o : mm_E) : Prop := ∀ z0 z2 : Option Value, mm_Runs L xs d 35 (82, [z0, some (.int v1), z2], [], M) o
noncomputable def mf_35_b57 (v1 : Int32) (v2 : Int32) (M : mm_M) : mm_O ((Int32 × Int32) ⊕ (Int32)) := if v2 < (256 : Int32) then (if mm_in v2 511 then if 0 < (M.1 82 v2.toNatClampNeg) then (some (.inl (.inl ((v1 + (1 : Int32)), (v2 + (1 : Int32)))), M)) else (some (.inl (.inl (v1, (v2 + (1 : Int32)))), M)) else none) else (some (.inl (.inr v1), M))
noncomputable def mf_35_L57 (s : Int32 × Int32) (M : mm_M) : mm_O (Int32) := mm_L (fun s M => mf_35_b57 s.1 s.2 M) s M
set_option maxRecDepth 8000 in
set_option maxHeartbeats 4000000 in
theorem ms_35_b57 {L : Nat} {xs : Nat → Int32} {d : Nat} (hd : 1 ≤ d) {v1 : Int32} {v2 : Int32} {M : mm_M} {q : (((Int32 × Int32) ⊕ (Int32)) ⊕ Nat) × mm_M} {o : mm_E} (h : mf_35_b57 v1 v2 M = some q) (hA : mm_A (mm_K2 (fun s M o => mp_35_57 L xs (d) s.1 s.2 M o) (fun r M o => mp_35_82 L xs (d) r M o)) q o) : mp_35_57 L xs d v1 v2 M o := by
  unfold mf_35_b57 at h
  obtain ⟨d, rfl⟩ := mm_d1 (n := 0) hd
  show mm_Runs L xs (d + 1) 35 (57, [some (.ref 0), some (.int v1), some (.int v2)], [], M) o
  refine mm_Runs.seq (l := [(57, .iload_n 2, 1), (58, .sipush 256, 3)]) (S2 := (61, [some (.ref 0), some (.int v1), some (.int v2)], [.int (256 : Int32), .int v2], M)) (by decide +kernel) (hO := mm_own_35) rfl ?_
  refine mm_R_ige (t := 82) rfl rfl rfl (fun hc => ?_) (fun hc => ?_)
  · replace h := mm_ip hc h
    refine mm_Runs.seq (l := [(64, .aload_n 0, 1), (65, .getfield 83, 3), (68, .iload_n 2, 1)]) (S2 := (69, [some (.ref 0), some (.int v1), some (.int v2)], [.int v2, .ref 82], M)) (by decide +kernel) (hO := mm_own_35) rfl ?_
    obtain ⟨hb, h⟩ := mm_gd h
    refine mm_R_iald rfl rfl hb ?_
    refine mm_R_zle (t := 76) rfl rfl rfl (fun hc => ?_) (fun hc => ?_)
    · replace h := mm_ip hc h
      refine mm_Runs.seq (l := [(73, .iinc 1 1, 3), (76, .iinc 2 1, 3), (79, .goto (-22), 3)]) (S2 := (57, [some (.ref 0), some (.int (v1 + (1 : Int32))), some (.int (v2 + (1 : Int32)))], [], M)) (by decide +kernel) (hO := mm_own_35) rfl ?_
      cases h
      exact (show mp_35_57 L xs (d + 1) (v1 + (1 : Int32)) (v2 + (1 : Int32)) M o from hA)
    · replace h := mm_iq hc h
      refine mm_Runs.seq (l := [(76, .iinc 2 1, 3), (79, .goto (-22), 3)]) (S2 := (57, [some (.ref 0), some (.int v1), some (.int (v2 + (1 : Int32)))], [], M)) (by decide +kernel) (hO := mm_own_35) rfl ?_
      cases h
      exact (show mp_35_57 L xs (d + 1) v1 (v2 + (1 : Int32)) M o from hA)
  · replace h := mm_iq hc h
    cases h
    exact (show mp_35_82 L xs (d + 1) v1 M o from hA) (some (.ref 0)) (some (.int v2))
theorem ms_35_L57 {L : Nat} {xs : Nat → Int32} {d : Nat} (hd : 1 ≤ d) {v1 : Int32} {v2 : Int32} {β : Type} {K : β → mm_M → mm_E → Prop} {F : (Int32) → mm_M → mm_O β} {M : mm_M} {q : (β ⊕ Nat) × mm_M} {o : mm_E} (h : mm_B (mf_35_L57 (v1, v2) M) F = some q) (hA : mm_A K q o) (hx : ∀ (r : (Int32)) (M2 : mm_M), F r M2 = some q → (fun r M o => mp_35_82 L xs (d) r M o) r M2 o) : mp_35_57 L xs d v1 v2 M o := mm_R_loop (s := (v1, v2)) (M := M) (P := (fun s M o => mp_35_57 L xs (d) s.1 s.2 M o)) (X := (fun r M o => mp_35_82 L xs (d) r M o)) h hA (fun s M q hq hA => ms_35_b57 hd hq hA) hx
noncomputable def mf_35 (M : mm_M) : mm_O Int32 := mm_B (mf_290 82 511 (0 : Int32) M) (fun _ M1 => mm_B (mf_290 83 511 (0 : Int32) M1) (fun _ M2 => mm_B (mf_35_L18 (0 : Int32) M2) (fun r4 M3 => mm_B (mf_35_L57 ((0 : Int32), (0 : Int32)) M3) (fun r8 M7 => some (.inl r8, M7)))))
set_option maxRecDepth 8000 in
set_option maxHeartbeats 4000000 in
theorem ms_35 {L : Nat} {xs : Nat → Int32} {d : Nat} (hd : 1 ≤ d) {M : mm_M} {q : (Int32 ⊕ Nat) × mm_M} {o : mm_E} (h : mf_35 M = some q) (hA : mm_A (mm_Kr mm_wi) q o) : mm_Runs L xs d 35 (0, mm_ent (mm_ml 35) [.ref 0], [], M) o := by
  unfold mf_35 at h
  obtain ⟨d, rfl⟩ := mm_d1 (n := 0) hd
  show mm_Runs L xs (d + 1) 35 (0, [some (.ref 0), none, none], [], M) o
  refine mm_Runs.seq (l := [(0, .aload_n 0, 1), (1, .getfield 83, 3), (4, .iconst 0, 1)]) (S2 := (5, [some (.ref 0), none, none], [.int (0 : Int32), .ref 82], M)) (by decide +kernel) (hO := mm_own_35) rfl ?_
  refine mm_R_call (v := mm_wv) h hA (k2 := 290) (as := [.ref 82, .int (0 : Int32)]) (r := []) rfl (fun _ => rfl) (fun q hq o ho => ms_290 rfl (by omega) hq ho) (fun _ M1 h => ?_)
  show mm_Runs L xs (d + 1) 35 (8, [some (.ref 0), none, none], [], M1) o
  refine mm_Runs.seq (l := [(8, .aload_n 0, 1), (9, .getfield 87, 3), (12, .iconst 0, 1)]) (S2 := (13, [some (.ref 0), none, none], [.int (0 : Int32), .ref 83], M1)) (by decide +kernel) (hO := mm_own_35) rfl ?_
  refine mm_R_call (v := mm_wv) h hA (k2 := 290) (as := [.ref 83, .int (0 : Int32)]) (r := []) rfl (fun _ => rfl) (fun q hq o ho => ms_290 rfl (by omega) hq ho) (fun _ M2 h => ?_)
  show mm_Runs L xs (d + 1) 35 (16, [some (.ref 0), none, none], [], M2) o
  refine mm_Runs.seq (l := [(16, .iconst 0, 1), (17, .istore_n 1, 1)]) (S2 := (18, [some (.ref 0), some (.int (0 : Int32)), none], [], M2)) (by decide +kernel) (hO := mm_own_35) rfl ?_
  have hp : mp_35_18 L xs (d + 1) (0 : Int32) M2 o := by
    refine ms_35_L18 hd h hA (fun r4 M3 h => ?_)
    intro y5 y6
    show mm_Runs L xs (d + 1) 35 (53, [some (.ref 0), y5, y6], [], M3) o
    refine mm_Runs.seq (l := [(53, .iconst 0, 1), (54, .istore_n 1, 1), (55, .iconst 0, 1), (56, .istore_n 2, 1)]) (S2 := (57, [some (.ref 0), some (.int (0 : Int32)), some (.int (0 : Int32))], [], M3)) (by decide +kernel) (hO := mm_own_35) rfl ?_
    have hp : mp_35_57 L xs (d + 1) (0 : Int32) (0 : Int32) M3 o := by
      refine ms_35_L57 hd h hA (fun r8 M7 h => ?_)
      intro y9 y10
      show mm_Runs L xs (d + 1) 35 (82, [y9, some (.int r8), y10], [], M7) o
      refine mm_Runs.seq (l := [(82, .iload_n 1, 1)]) (S2 := (83, [y9, some (.int r8), y10], [.int r8], M7)) (by decide +kernel) (hO := mm_own_35) rfl ?_
      cases h
      exact mm_R_reti rfl rfl hA
    exact hp
  exact hp none
-- 37: PlainPacks.lightest(II)I (depth 0)
theorem mm_own_37 : mm_own 37 = 0 := rfl
def mp_37_5 (L : Nat) (xs : Nat → Int32) (d : Nat) (v1 : Int32) (v2 : Int32) (v3 : Int32) (v4 : Int32) (M : mm_M) (o : mm_E) : Prop := ∀ z5 : Option Value, mm_Runs L xs d 37 (5, [some (.ref 0), some (.int v1), some (.int v2), some (.int v3), some (.int v4), z5], [], M) o
def mp_37_78 (L : Nat) (xs : Nat → Int32) (d : Nat) (v3 : Int32) (M : mm_M) (o : mm_E) : Prop := ∀ z0 z1 z2 z4 z5 : Option Value, mm_Runs L xs d 37 (78, [z0, z1, z2, some (.int v3), z4, z5], [], M) o
def mp_37_41 (L : Nat) (xs : Nat → Int32) (d : Nat) (v1 : Int32) (v2 : Int32) (v3 : Int32) (v4 : Int32) (M : mm_M) (o : mm_E) : Prop := ∀ z5 : Option Value, mm_Runs L xs d 37 (41, [some (.ref 0), some (.int v1), some (.int v2), some (.int v3), some (.int v4), z5], [], M) o
def mp_37_42 (L : Nat) (xs : Nat → Int32) (d : Nat) (v1 : Int32) (v2 : Int32) (v3 : Int32) (v4 : Int32) (s0 : Int32) (M : mm_M) (o : mm_E) : Prop := ∀ z5 : Option Value, mm_Runs L xs d 37 (42, [some (.ref 0), some (.int v1), some (.int v2), some (.int v3), some (.int v4), z5], [.int s0], M) o
noncomputable def mf_37_j42 (v1 : Int32) (v2 : Int32) (v3 : Int32) (v4 : Int32) (s0 : Int32) (M : mm_M) : mm_O ((Int32 × Int32) ⊕ (Int32)) := if s0 = 0 then (some (.inl (.inl (v3, (v4 + (1 : Int32)))), M)) else (if v3 < 0 then (some (.inl (.inl (v4, (v4 + (1 : Int32)))), M)) else (if mm_in v4 511 then if mm_in v3 511 then if (M.1 82 v4.toNatClampNeg) < (M.1 82 v3.toNatClampNeg) then (some (.inl (.inl (v4, (v4 + (1 : Int32)))), M)) else (some (.inl (.inl (v3, (v4 + (1 : Int32)))), M)) else none else none))
set_option maxRecDepth 8000 in
set_option maxHeartbeats 4000000 in
theorem ms_37_j42 {L : Nat} {xs : Nat → Int32} {d : Nat} (hd : 0 ≤ d) {v1 : Int32} {v2 : Int32} {v3 : Int32} {v4 : Int32} {s0 : Int32} {M : mm_M} {q : (((Int32 × Int32) ⊕ (Int32)) ⊕ Nat) × mm_M} {o : mm_E} (h : mf_37_j42 v1 v2 v3 v4 s0 M = some q) (hA : mm_A (mm_K2 (fun s M o => mp_37_5 L xs (d) v1 v2 s.1 s.2 M o) (fun r M o => mp_37_78 L xs (d) r M o)) q o) : mp_37_42 L xs d v1 v2 v3 v4 s0 M o := by
  unfold mf_37_j42 at h
  intro z5
  show mm_Runs L xs (d) 37 (42, [some (.ref 0), some (.int v1), some (.int v2), some (.int v3), some (.int v4), z5], [.int s0], M) o
  refine mm_Runs.seq (l := [(42, .istore 5, 2), (44, .iload 5, 2)]) (S2 := (46, [some (.ref 0), some (.int v1), some (.int v2), some (.int v3), some (.int v4), some (.int s0)], [.int s0], M)) (by decide +kernel) (hO := mm_own_37) rfl ?_
  refine mm_R_zeq (t := 72) rfl rfl rfl (fun hc => ?_) (fun hc => ?_)
  · replace h := mm_ip hc h
    refine mm_Runs.seq (l := [(72, .iinc 4 1, 3), (75, .goto (-70), 3)]) (S2 := (5, [some (.ref 0), some (.int v1), some (.int v2), some (.int v3), some (.int (v4 + (1 : Int32))), some (.int s0)], [], M)) (by decide +kernel) (hO := mm_own_37) rfl ?_
    cases h
    exact (show mp_37_5 L xs (d) v1 v2 v3 (v4 + (1 : Int32)) M o from hA) (some (.int s0))
  · replace h := mm_iq hc h
    refine mm_Runs.seq (l := [(49, .iload_n 3, 1)]) (S2 := (50, [some (.ref 0), some (.int v1), some (.int v2), some (.int v3), some (.int v4), some (.int s0)], [.int v3], M)) (by decide +kernel) (hO := mm_own_37) rfl ?_
    refine mm_R_zlt (t := 69) rfl rfl rfl (fun hc => ?_) (fun hc => ?_)
    · replace h := mm_ip hc h
      refine mm_Runs.seq (l := [(69, .iload 4, 2), (71, .istore_n 3, 1), (72, .iinc 4 1, 3), (75, .goto (-70), 3)]) (S2 := (5, [some (.ref 0), some (.int v1), some (.int v2), some (.int v4), some (.int (v4 + (1 : Int32))), some (.int s0)], [], M)) (by decide +kernel) (hO := mm_own_37) rfl ?_
      cases h
      exact (show mp_37_5 L xs (d) v1 v2 v4 (v4 + (1 : Int32)) M o from hA) (some (.int s0))
    · replace h := mm_iq hc h
      refine mm_Runs.seq (l := [(53, .aload_n 0, 1), (54, .getfield 83, 3), (57, .iload 4, 2)]) (S2 := (59, [some (.ref 0), some (.int v1), some (.int v2), some (.int v3), some (.int v4), some (.int s0)], [.int v4, .ref 82], M)) (by decide +kernel) (hO := mm_own_37) rfl ?_
      obtain ⟨hb, h⟩ := mm_gd h
      refine mm_R_iald rfl rfl hb ?_
      refine mm_Runs.seq (l := [(60, .aload_n 0, 1), (61, .getfield 83, 3), (64, .iload_n 3, 1)]) (S2 := (65, [some (.ref 0), some (.int v1), some (.int v2), some (.int v3), some (.int v4), some (.int s0)], [.int v3, .ref 82, .int (M.1 82 v4.toNatClampNeg)], M)) (by decide +kernel) (hO := mm_own_37) rfl ?_
      obtain ⟨hb, h⟩ := mm_gd h
      refine mm_R_iald rfl rfl hb ?_
      refine mm_R_ige (t := 72) rfl rfl rfl (fun hc => ?_) (fun hc => ?_)
      · replace h := mm_ip hc h
        refine mm_Runs.seq (l := [(69, .iload 4, 2), (71, .istore_n 3, 1), (72, .iinc 4 1, 3), (75, .goto (-70), 3)]) (S2 := (5, [some (.ref 0), some (.int v1), some (.int v2), some (.int v4), some (.int (v4 + (1 : Int32))), some (.int s0)], [], M)) (by decide +kernel) (hO := mm_own_37) rfl ?_
        cases h
        exact (show mp_37_5 L xs (d) v1 v2 v4 (v4 + (1 : Int32)) M o from hA) (some (.int s0))
      · replace h := mm_iq hc h
        refine mm_Runs.seq (l := [(72, .iinc 4 1, 3), (75, .goto (-70), 3)]) (S2 := (5, [some (.ref 0), some (.int v1), some (.int v2), some (.int v3), some (.int (v4 + (1 : Int32))), some (.int s0)], [], M)) (by decide +kernel) (hO := mm_own_37) rfl ?_
        cases h
        exact (show mp_37_5 L xs (d) v1 v2 v3 (v4 + (1 : Int32)) M o from hA) (some (.int s0))
noncomputable def mf_37_j41 (v1 : Int32) (v2 : Int32) (v3 : Int32) (v4 : Int32) (M : mm_M) : mm_O ((Int32 × Int32) ⊕ (Int32)) := mf_37_j42 v1 v2 v3 v4 (0 : Int32) M
set_option maxRecDepth 8000 in
set_option maxHeartbeats 4000000 in
theorem ms_37_j41 {L : Nat} {xs : Nat → Int32} {d : Nat} (hd : 0 ≤ d) {v1 : Int32} {v2 : Int32} {v3 : Int32} {v4 : Int32} {M : mm_M} {q : (((Int32 × Int32) ⊕ (Int32)) ⊕ Nat) × mm_M} {o : mm_E} (h : mf_37_j41 v1 v2 v3 v4 M = some q) (hA : mm_A (mm_K2 (fun s M o => mp_37_5 L xs (d) v1 v2 s.1 s.2 M o) (fun r M o => mp_37_78 L xs (d) r M o)) q o) : mp_37_41 L xs d v1 v2 v3 v4 M o := by
  unfold mf_37_j41 at h
  intro z5
  show mm_Runs L xs (d) 37 (41, [some (.ref 0), some (.int v1), some (.int v2), some (.int v3), some (.int v4), z5], [], M) o
  refine mm_Runs.seq (l := [(41, .iconst 0, 1)]) (S2 := (42, [some (.ref 0), some (.int v1), some (.int v2), some (.int v3), some (.int v4), z5], [.int (0 : Int32)], M)) (by decide +kernel) (hO := mm_own_37) rfl ?_
  exact (ms_37_j42 hd h hA : mp_37_42 L xs (d) v1 v2 v3 v4 (0 : Int32) M o) z5
noncomputable def mf_37_b5 (v1 : Int32) (v2 : Int32) (v3 : Int32) (v4 : Int32) (M : mm_M) : mm_O ((Int32 × Int32) ⊕ (Int32)) := if v4 < v1 then (if mm_in v4 511 then if 0 < (M.1 82 v4.toNatClampNeg) then (if mm_in v4 511 then if (M.1 83 v4.toNatClampNeg) = 0 then (if v4 = v2 then (mf_37_j41 v1 v2 v3 v4 M) else (mf_37_j42 v1 v2 v3 v4 (1 : Int32) M)) else (mf_37_j41 v1 v2 v3 v4 M) else none) else (mf_37_j41 v1 v2 v3 v4 M) else none) else (some (.inl (.inr v3), M))
noncomputable def mf_37_L5 (v1 : Int32) (v2 : Int32) (s : Int32 × Int32) (M : mm_M) : mm_O (Int32) := mm_L (fun s M => mf_37_b5 v1 v2 s.1 s.2 M) s M
set_option maxRecDepth 8000 in
set_option maxHeartbeats 4000000 in
theorem ms_37_b5 {L : Nat} {xs : Nat → Int32} {d : Nat} (hd : 0 ≤ d) {v1 : Int32} {v2 : Int32} {v3 : Int32} {v4 : Int32} {M : mm_M} {q : (((Int32 × Int32) ⊕ (Int32)) ⊕ Nat) × mm_M} {o : mm_E} (h : mf_37_b5 v1 v2 v3 v4 M = some q) (hA : mm_A (mm_K2 (fun s M o => mp_37_5 L xs (d) v1 v2 s.1 s.2 M o) (fun r M o => mp_37_78 L xs (d) r M o)) q o) : mp_37_5 L xs d v1 v2 v3 v4 M o := by
  unfold mf_37_b5 at h
  intro z5
  show mm_Runs L xs (d) 37 (5, [some (.ref 0), some (.int v1), some (.int v2), some (.int v3), some (.int v4), z5], [], M) o
  refine mm_Runs.seq (l := [(5, .iload 4, 2), (7, .iload_n 1, 1)]) (S2 := (8, [some (.ref 0), some (.int v1), some (.int v2), some (.int v3), some (.int v4), z5], [.int v1, .int v4], M)) (by decide +kernel) (hO := mm_own_37) rfl ?_
  refine mm_R_ige (t := 78) rfl rfl rfl (fun hc => ?_) (fun hc => ?_)
  · replace h := mm_ip hc h
    refine mm_Runs.seq (l := [(11, .aload_n 0, 1), (12, .getfield 83, 3), (15, .iload 4, 2)]) (S2 := (17, [some (.ref 0), some (.int v1), some (.int v2), some (.int v3), some (.int v4), z5], [.int v4, .ref 82], M)) (by decide +kernel) (hO := mm_own_37) rfl ?_
    obtain ⟨hb, h⟩ := mm_gd h
    refine mm_R_iald rfl rfl hb ?_
    refine mm_R_zle (t := 41) rfl rfl rfl (fun hc => ?_) (fun hc => ?_)
    · replace h := mm_ip hc h
      refine mm_Runs.seq (l := [(21, .aload_n 0, 1), (22, .getfield 87, 3), (25, .iload 4, 2)]) (S2 := (27, [some (.ref 0), some (.int v1), some (.int v2), some (.int v3), some (.int v4), z5], [.int v4, .ref 83], M)) (by decide +kernel) (hO := mm_own_37) rfl ?_
      obtain ⟨hb, h⟩ := mm_gd h
      refine mm_R_iald rfl rfl hb ?_
      refine mm_R_zne (t := 41) rfl rfl rfl (fun hc => ?_) (fun hc => ?_)
      · replace h := mm_ip hc h
        refine mm_Runs.seq (l := [(31, .iload 4, 2), (33, .iload_n 2, 1)]) (S2 := (34, [some (.ref 0), some (.int v1), some (.int v2), some (.int v3), some (.int v4), z5], [.int v2, .int v4], M)) (by decide +kernel) (hO := mm_own_37) rfl ?_
        refine mm_R_ieq (t := 41) rfl rfl rfl (fun hc => ?_) (fun hc => ?_)
        · replace h := mm_ip hc h
          exact (ms_37_j41 hd h hA : mp_37_41 L xs (d) v1 v2 v3 v4 M o) z5
        · replace h := mm_iq hc h
          refine mm_Runs.seq (l := [(37, .iconst 1, 1), (38, .goto 4, 3)]) (S2 := (42, [some (.ref 0), some (.int v1), some (.int v2), some (.int v3), some (.int v4), z5], [.int (1 : Int32)], M)) (by decide +kernel) (hO := mm_own_37) rfl ?_
          exact (ms_37_j42 hd h hA : mp_37_42 L xs (d) v1 v2 v3 v4 (1 : Int32) M o) z5
      · replace h := mm_iq hc h
        exact (ms_37_j41 hd h hA : mp_37_41 L xs (d) v1 v2 v3 v4 M o) z5
    · replace h := mm_iq hc h
      exact (ms_37_j41 hd h hA : mp_37_41 L xs (d) v1 v2 v3 v4 M o) z5
  · replace h := mm_iq hc h
    cases h
    exact (show mp_37_78 L xs (d) v3 M o from hA) (some (.ref 0)) (some (.int v1)) (some (.int v2)) (some (.int v4)) z5
theorem ms_37_L5 {L : Nat} {xs : Nat → Int32} {d : Nat} (hd : 0 ≤ d) {v1 : Int32} {v2 : Int32} {v3 : Int32} {v4 : Int32} {β : Type} {K : β → mm_M → mm_E → Prop} {F : (Int32) → mm_M → mm_O β} {M : mm_M} {q : (β ⊕ Nat) × mm_M} {o : mm_E} (h : mm_B (mf_37_L5 v1 v2 (v3, v4) M) F = some q) (hA : mm_A K q o) (hx : ∀ (r : (Int32)) (M2 : mm_M), F r M2 = some q → (fun r M o => mp_37_78 L xs (d) r M o) r M2 o) : mp_37_5 L xs d v1 v2 v3 v4 M o := mm_R_loop (s := (v3, v4)) (M := M) (P := (fun s M o => mp_37_5 L xs (d) v1 v2 s.1 s.2 M o)) (X := (fun r M o => mp_37_78 L xs (d) r M o)) h hA (fun s M q hq hA => ms_37_b5 hd hq hA) hx
noncomputable def mf_37 (v1 : Int32) (v2 : Int32) (M : mm_M) : mm_O Int32 := mm_B (mf_37_L5 v1 v2 ((-1 : Int32), (0 : Int32)) M) (fun r2 M1 => some (.inl r2, M1))
set_option maxRecDepth 8000 in
set_option maxHeartbeats 4000000 in
theorem ms_37 {L : Nat} {xs : Nat → Int32} {d : Nat} (hd : 0 ≤ d) {v1 : Int32} {v2 : Int32} {M : mm_M} {q : (Int32 ⊕ Nat) × mm_M} {o : mm_E} (h : mf_37 v1 v2 M = some q) (hA : mm_A (mm_Kr mm_wi) q o) : mm_Runs L xs d 37 (0, mm_ent (mm_ml 37) [.ref 0, .int v1, .int v2], [], M) o := by
  unfold mf_37 at h
  show mm_Runs L xs (d) 37 (0, [some (.ref 0), some (.int v1), some (.int v2), none, none, none], [], M) o
  refine mm_Runs.seq (l := [(0, .iconst (-1), 1), (1, .istore_n 3, 1), (2, .iconst 0, 1), (3, .istore 4, 2)]) (S2 := (5, [some (.ref 0), some (.int v1), some (.int v2), some (.int (-1 : Int32)), some (.int (0 : Int32)), none], [], M)) (by decide +kernel) (hO := mm_own_37) rfl ?_
  have hp : mp_37_5 L xs (d) v1 v2 (-1 : Int32) (0 : Int32) M o := by
    refine ms_37_L5 hd h hA (fun r2 M1 h => ?_)
    intro y3 y4 y5 y6 y7
    show mm_Runs L xs (d) 37 (78, [y3, y4, y5, some (.int r2), y6, y7], [], M1) o
    refine mm_Runs.seq (l := [(78, .iload_n 3, 1)]) (S2 := (79, [y3, y4, y5, some (.int r2), y6, y7], [.int r2], M1)) (by decide +kernel) (hO := mm_own_37) rfl ?_
    cases h
    exact mm_R_reti rfl rfl hA
  exact hp none
-- 36: PlainPacks.joinAll(I)V (depth 1)
theorem mm_own_36 : mm_own 36 = 0 := rfl
def mp_36_6 (L : Nat) (xs : Nat → Int32) (d : Nat) (v1 : Int32) (v2 : Int32) (v3 : Int32) (M : mm_M) (o : mm_E) : Prop := ∀ z4 z5 : Option Value, mm_Runs L xs d 36 (6, [some (.ref 0), some (.int v1), some (.int v2), some (.int v3), z4, z5], [], M) o
def mp_36_47 (L : Nat) (xs : Nat → Int32) (d : Nat) (M : mm_M) (o : mm_E) : Prop := ∀ z0 z1 z2 z3 z4 z5 : Option Value, mm_Runs L xs d 36 (47, [z0, z1, z2, z3, z4, z5], [], M) o
def mp_36_94 (L : Nat) (xs : Nat → Int32) (d : Nat) (M : mm_M) (o : mm_E) : Prop := ∀ z0 z1 z2 z3 z4 z5 : Option Value, mm_Runs L xs d 36 (94, [z0, z1, z2, z3, z4, z5], [], M) o
noncomputable def mf_36_b6 (v1 : Int32) (v2 : Int32) (v3 : Int32) (M : mm_M) : mm_O ((Int32 × Int32) ⊕ ((Unit) ⊕ (Unit))) := if v3 < v1 then (if v2 < (511 : Int32) then (mm_B (mf_37 v2 (-1 : Int32) M) (fun r1 M2 => mm_B (mf_37 v2 r1 M2) (fun r3 M4 => if r1 < 0 then (some (.inl (.inr (.inl ())), M4)) else (if r3 < 0 then (some (.inl (.inr (.inl ())), M4)) else (if mm_in r1 511 then if mm_in r3 511 then if mm_in v2 511 then if mm_in r1 511 then if mm_in r3 511 then some (.inl (.inl ((v2 + (1 : Int32)), (v3 + (1 : Int32)))), (mm_pi (mm_pi (mm_pi M4 82 v2.toNatClampNeg ((M4.1 82 r1.toNatClampNeg) + (M4.1 82 r3.toNatClampNeg))) 83 r1.toNatClampNeg v2) 83 r3.toNatClampNeg v2)) else none else none else none else none else none))))) else (some (.inl (.inr (.inr ())), M))) else (some (.inl (.inr (.inr ())), M))
noncomputable def mf_36_L6 (v1 : Int32) (s : Int32 × Int32) (M : mm_M) : mm_O ((Unit) ⊕ (Unit)) := mm_L (fun s M => mf_36_b6 v1 s.1 s.2 M) s M
set_option maxRecDepth 8000 in
set_option maxHeartbeats 4000000 in
theorem ms_36_b6 {L : Nat} {xs : Nat → Int32} {d : Nat} (hd : 1 ≤ d) {v1 : Int32} {v2 : Int32} {v3 : Int32} {M : mm_M} {q : (((Int32 × Int32) ⊕ ((Unit) ⊕ (Unit))) ⊕ Nat) × mm_M} {o : mm_E} (h : mf_36_b6 v1 v2 v3 M = some q) (hA : mm_A (mm_K2 (fun s M o => mp_36_6 L xs (d) v1 s.1 s.2 M o) (fun r M o => mm_sm (fun r => mp_36_47 L xs (d) M o) (fun r => mp_36_94 L xs (d) M o) r)) q o) : mp_36_6 L xs d v1 v2 v3 M o := by
  unfold mf_36_b6 at h
  obtain ⟨d, rfl⟩ := mm_d1 (n := 0) hd
  intro z4 z5
  show mm_Runs L xs (d + 1) 36 (6, [some (.ref 0), some (.int v1), some (.int v2), some (.int v3), z4, z5], [], M) o
  refine mm_Runs.seq (l := [(6, .iload_n 3, 1), (7, .iload_n 1, 1)]) (S2 := (8, [some (.ref 0), some (.int v1), some (.int v2), some (.int v3), z4, z5], [.int v1, .int v3], M)) (by decide +kernel) (hO := mm_own_36) rfl ?_
  refine mm_R_ige (t := 94) rfl rfl rfl (fun hc => ?_) (fun hc => ?_)
  · replace h := mm_ip hc h
    refine mm_Runs.seq (l := [(11, .iload_n 2, 1), (12, .aload_n 0, 1), (13, .getfield 83, 3), (16, .arraylength, 1)]) (S2 := (17, [some (.ref 0), some (.int v1), some (.int v2), some (.int v3), z4, z5], [.int (511 : Int32), .int v2], M)) (by decide +kernel) (hO := mm_own_36) rfl ?_
    refine mm_R_ige (t := 94) rfl rfl rfl (fun hc => ?_) (fun hc => ?_)
    · replace h := mm_ip hc h
      refine mm_Runs.seq (l := [(20, .aload_n 0, 1), (21, .iload_n 2, 1), (22, .iconst (-1), 1)]) (S2 := (23, [some (.ref 0), some (.int v1), some (.int v2), some (.int v3), z4, z5], [.int (-1 : Int32), .int v2, .ref 0], M)) (by decide +kernel) (hO := mm_own_36) rfl ?_
      refine mm_R_call (v := mm_wi) h hA (k2 := 37) (as := [.ref 0, .int v2, .int (-1 : Int32)]) (r := []) rfl (fun _ => rfl) (fun q hq o ho => ms_37 (by omega) hq ho) (fun r1 M2 h => ?_)
      show mm_Runs L xs (d + 1) 36 (26, [some (.ref 0), some (.int v1), some (.int v2), some (.int v3), z4, z5], [.int r1], M2) o
      refine mm_Runs.seq (l := [(26, .istore 4, 2), (28, .aload_n 0, 1), (29, .iload_n 2, 1), (30, .iload 4, 2)]) (S2 := (32, [some (.ref 0), some (.int v1), some (.int v2), some (.int v3), some (.int r1), z5], [.int r1, .int v2, .ref 0], M2)) (by decide +kernel) (hO := mm_own_36) rfl ?_
      refine mm_R_call (v := mm_wi) h hA (k2 := 37) (as := [.ref 0, .int v2, .int r1]) (r := []) rfl (fun _ => rfl) (fun q hq o ho => ms_37 (by omega) hq ho) (fun r3 M4 h => ?_)
      show mm_Runs L xs (d + 1) 36 (35, [some (.ref 0), some (.int v1), some (.int v2), some (.int v3), some (.int r1), z5], [.int r3], M4) o
      refine mm_Runs.seq (l := [(35, .istore 5, 2), (37, .iload 4, 2)]) (S2 := (39, [some (.ref 0), some (.int v1), some (.int v2), some (.int v3), some (.int r1), some (.int r3)], [.int r1], M4)) (by decide +kernel) (hO := mm_own_36) rfl ?_
      refine mm_R_zlt (t := 47) rfl rfl rfl (fun hc => ?_) (fun hc => ?_)
      · replace h := mm_ip hc h
        cases h
        exact (show mp_36_47 L xs (d + 1) M4 o from hA) (some (.ref 0)) (some (.int v1)) (some (.int v2)) (some (.int v3)) (some (.int r1)) (some (.int r3))
      · replace h := mm_iq hc h
        refine mm_Runs.seq (l := [(42, .iload 5, 2)]) (S2 := (44, [some (.ref 0), some (.int v1), some (.int v2), some (.int v3), some (.int r1), some (.int r3)], [.int r3], M4)) (by decide +kernel) (hO := mm_own_36) rfl ?_
        refine mm_R_zge (t := 48) rfl rfl rfl (fun hc => ?_) (fun hc => ?_)
        · replace h := mm_ip hc h
          cases h
          exact (show mp_36_47 L xs (d + 1) M4 o from hA) (some (.ref 0)) (some (.int v1)) (some (.int v2)) (some (.int v3)) (some (.int r1)) (some (.int r3))
        · replace h := mm_iq hc h
          refine mm_Runs.seq (l := [(48, .aload_n 0, 1), (49, .getfield 83, 3), (52, .iload_n 2, 1), (53, .aload_n 0, 1), (54, .getfield 83, 3), (57, .iload 4, 2)]) (S2 := (59, [some (.ref 0), some (.int v1), some (.int v2), some (.int v3), some (.int r1), some (.int r3)], [.int r1, .ref 82, .int v2, .ref 82], M4)) (by decide +kernel) (hO := mm_own_36) rfl ?_
          obtain ⟨hb, h⟩ := mm_gd h
          refine mm_R_iald rfl rfl hb ?_
          refine mm_Runs.seq (l := [(60, .aload_n 0, 1), (61, .getfield 83, 3), (64, .iload 5, 2)]) (S2 := (66, [some (.ref 0), some (.int v1), some (.int v2), some (.int v3), some (.int r1), some (.int r3)], [.int r3, .ref 82, .int (M4.1 82 r1.toNatClampNeg), .int v2, .ref 82], M4)) (by decide +kernel) (hO := mm_own_36) rfl ?_
          obtain ⟨hb, h⟩ := mm_gd h
          refine mm_R_iald rfl rfl hb ?_
          refine mm_Runs.seq (l := [(67, .iadd, 1)]) (S2 := (68, [some (.ref 0), some (.int v1), some (.int v2), some (.int v3), some (.int r1), some (.int r3)], [.int ((M4.1 82 r1.toNatClampNeg) + (M4.1 82 r3.toNatClampNeg)), .int v2, .ref 82], M4)) (by decide +kernel) (hO := mm_own_36) rfl ?_
          obtain ⟨hb, h⟩ := mm_gd h
          refine mm_R_iast rfl rfl hb ?_
          refine mm_Runs.seq (l := [(69, .aload_n 0, 1), (70, .getfield 87, 3), (73, .iload 4, 2), (75, .iload_n 2, 1)]) (S2 := (76, [some (.ref 0), some (.int v1), some (.int v2), some (.int v3), some (.int r1), some (.int r3)], [.int v2, .int r1, .ref 83], (mm_pi M4 82 v2.toNatClampNeg ((M4.1 82 r1.toNatClampNeg) + (M4.1 82 r3.toNatClampNeg))))) (by decide +kernel) (hO := mm_own_36) rfl ?_
          obtain ⟨hb, h⟩ := mm_gd h
          refine mm_R_iast rfl rfl hb ?_
          refine mm_Runs.seq (l := [(77, .aload_n 0, 1), (78, .getfield 87, 3), (81, .iload 5, 2), (83, .iload_n 2, 1)]) (S2 := (84, [some (.ref 0), some (.int v1), some (.int v2), some (.int v3), some (.int r1), some (.int r3)], [.int v2, .int r3, .ref 83], (mm_pi (mm_pi M4 82 v2.toNatClampNeg ((M4.1 82 r1.toNatClampNeg) + (M4.1 82 r3.toNatClampNeg))) 83 r1.toNatClampNeg v2))) (by decide +kernel) (hO := mm_own_36) rfl ?_
          obtain ⟨hb, h⟩ := mm_gd h
          refine mm_R_iast rfl rfl hb ?_
          refine mm_Runs.seq (l := [(85, .iinc 2 1, 3), (88, .iinc 3 1, 3), (91, .goto (-85), 3)]) (S2 := (6, [some (.ref 0), some (.int v1), some (.int (v2 + (1 : Int32))), some (.int (v3 + (1 : Int32))), some (.int r1), some (.int r3)], [], (mm_pi (mm_pi (mm_pi M4 82 v2.toNatClampNeg ((M4.1 82 r1.toNatClampNeg) + (M4.1 82 r3.toNatClampNeg))) 83 r1.toNatClampNeg v2) 83 r3.toNatClampNeg v2))) (by decide +kernel) (hO := mm_own_36) rfl ?_
          cases h
          exact (show mp_36_6 L xs (d + 1) v1 (v2 + (1 : Int32)) (v3 + (1 : Int32)) (mm_pi (mm_pi (mm_pi M4 82 v2.toNatClampNeg ((M4.1 82 r1.toNatClampNeg) + (M4.1 82 r3.toNatClampNeg))) 83 r1.toNatClampNeg v2) 83 r3.toNatClampNeg v2) o from hA) (some (.int r1)) (some (.int r3))
    · replace h := mm_iq hc h
      cases h
      exact (show mp_36_94 L xs (d + 1) M o from hA) (some (.ref 0)) (some (.int v1)) (some (.int v2)) (some (.int v3)) z4 z5
  · replace h := mm_iq hc h
    cases h
    exact (show mp_36_94 L xs (d + 1) M o from hA) (some (.ref 0)) (some (.int v1)) (some (.int v2)) (some (.int v3)) z4 z5
theorem ms_36_L6 {L : Nat} {xs : Nat → Int32} {d : Nat} (hd : 1 ≤ d) {v1 : Int32} {v2 : Int32} {v3 : Int32} {β : Type} {K : β → mm_M → mm_E → Prop} {F : ((Unit) ⊕ (Unit)) → mm_M → mm_O β} {M : mm_M} {q : (β ⊕ Nat) × mm_M} {o : mm_E} (h : mm_B (mf_36_L6 v1 (v2, v3) M) F = some q) (hA : mm_A K q o) (hx : ∀ (r : ((Unit) ⊕ (Unit))) (M2 : mm_M), F r M2 = some q → (fun r M o => mm_sm (fun r => mp_36_47 L xs (d) M o) (fun r => mp_36_94 L xs (d) M o) r) r M2 o) : mp_36_6 L xs d v1 v2 v3 M o := mm_R_loop (s := (v2, v3)) (M := M) (P := (fun s M o => mp_36_6 L xs (d) v1 s.1 s.2 M o)) (X := (fun r M o => mm_sm (fun r => mp_36_47 L xs (d) M o) (fun r => mp_36_94 L xs (d) M o) r)) h hA (fun s M q hq hA => ms_36_b6 hd hq hA) hx
noncomputable def mf_36 (v1 : Int32) (M : mm_M) : mm_O Unit := mm_B (mf_36_L6 v1 ((256 : Int32), (1 : Int32)) M) (fun r2 M1 => mm_sm (fun r2 => some (.inl (), M1)) (fun r2 => some (.inl (), M1)) r2)
set_option maxRecDepth 8000 in
set_option maxHeartbeats 4000000 in
theorem ms_36 {L : Nat} {xs : Nat → Int32} {d : Nat} (hd : 1 ≤ d) {v1 : Int32} {M : mm_M} {q : (Unit ⊕ Nat) × mm_M} {o : mm_E} (h : mf_36 v1 M = some q) (hA : mm_A (mm_Kr mm_wv) q o) : mm_Runs L xs d 36 (0, mm_ent (mm_ml 36) [.ref 0, .int v1], [], M) o := by
  unfold mf_36 at h
  obtain ⟨d, rfl⟩ := mm_d1 (n := 0) hd
  show mm_Runs L xs (d + 1) 36 (0, [some (.ref 0), some (.int v1), none, none, none, none], [], M) o
  refine mm_Runs.seq (l := [(0, .sipush 256, 3), (3, .istore_n 2, 1), (4, .iconst 1, 1), (5, .istore_n 3, 1)]) (S2 := (6, [some (.ref 0), some (.int v1), some (.int (256 : Int32)), some (.int (1 : Int32)), none, none], [], M)) (by decide +kernel) (hO := mm_own_36) rfl ?_
  have hp : mp_36_6 L xs (d + 1) v1 (256 : Int32) (1 : Int32) M o := by
    refine ms_36_L6 hd h hA (fun r2 M1 h => ?_)
    rcases r2 with r2 | r2
    · dsimp only [mm_sm] at h
      intro y3 y4 y5 y6 y7 y8
      show mm_Runs L xs (d + 1) 36 (47, [y3, y4, y5, y6, y7, y8], [], M1) o
      cases h
      exact mm_R_retv rfl rfl hA
    · dsimp only [mm_sm] at h
      intro y9 y10 y11 y12 y13 y14
      show mm_Runs L xs (d + 1) 36 (94, [y9, y10, y11, y12, y13, y14], [], M1) o
      cases h
      exact mm_R_retv rfl rfl hA
  exact hp none none
