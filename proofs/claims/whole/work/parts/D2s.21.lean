/-! MEANINGS ARE SOUND 21 -/
-- 183: PlainPacksModel.crcHigh([III)I (depth 0)
theorem mm_own_183 : mm_own 183 = 12 := rfl
def mp_183_5 (L : Nat) (xs : Nat → Int32) (p : Nat) (n : Nat) (d : Nat) (v2 : Int32) (v3 : Int32) (v4 : Int32) (M : mm_M) (o : mm_E) : Prop := ∀ z1 z5 : Option Value, mm_Runs L xs d 183 (5, [some (.ref p), z1, some (.int v2), some (.int v3), some (.int v4), z5], [], M) o
def mp_183_60 (L : Nat) (xs : Nat → Int32) (p : Nat) (n : Nat) (d : Nat) (v3 : Int32) (M : mm_M) (o : mm_E) : Prop := ∀ z0 z1 z2 z4 z5 : Option Value, mm_Runs L xs d 183 (60, [z0, z1, z2, some (.int v3), z4, z5], [], M) o
def mp_183_24 (L : Nat) (xs : Nat → Int32) (p : Nat) (n : Nat) (d : Nat) (v2 : Int32) (v3 : Int32) (v4 : Int32) (v5 : Int32) (M : mm_M) (o : mm_E) : Prop := ∀ z1 : Option Value, mm_Runs L xs d 183 (24, [some (.ref p), z1, some (.int v2), some (.int v3), some (.int v4), some (.int v5)], [], M) o
def mp_183_54 (L : Nat) (xs : Nat → Int32) (p : Nat) (n : Nat) (d : Nat) (v2 : Int32) (v3 : Int32) (v4 : Int32) (M : mm_M) (o : mm_E) : Prop := ∀ z1 z5 : Option Value, mm_Runs L xs d 183 (54, [some (.ref p), z1, some (.int v2), some (.int v3), some (.int v4), z5], [], M) o
set_option maxRecDepth 8000 in
set_option maxHeartbeats 4000000 in
theorem ms_183_b24 {L : Nat} {xs : Nat → Int32} {p : Nat} {n : Nat} {d : Nat} (ha : mm_aat 0 p = some n) (hd : 0 ≤ d) {v2 : Int32} {v3 : Int32} {v4 : Int32} {v5 : Int32} {M : mm_M} {q : (((Int32 × Int32) ⊕ (Int32)) ⊕ Nat) × mm_M} {o : mm_E} (h : mf_183_b24 p n v2 v3 v4 v5 M = some q) (hA : mm_A (mm_K2 (fun s M o => mp_183_24 L xs p n (d) v2 s.1 v4 s.2 M o) (fun r M o => mp_183_54 L xs p n (d) v2 r v4 M o)) q o) : mp_183_24 L xs p n d v2 v3 v4 v5 M o := by
  unfold mf_183_b24 at h
  intro z1
  show mm_Runs L xs (d) 183 (24, [some (.ref p), z1, some (.int v2), some (.int v3), some (.int v4), some (.int v5)], [], M) o
  refine mm_Runs.seq (l := [(24, .iload 5, 2), (26, .bipush 8, 2)]) (S2 := (28, [some (.ref p), z1, some (.int v2), some (.int v3), some (.int v4), some (.int v5)], [.int (8 : Int32), .int v5], M)) (by decide +kernel) (hO := mm_own_183) rfl ?_
  refine mm_R_ige (t := 54) rfl rfl rfl (fun hc => ?_) (fun hc => ?_)
  · replace h := mm_ip hc h
    refine mm_Runs.seq (l := [(31, .iload_n 3, 1)]) (S2 := (32, [some (.ref p), z1, some (.int v2), some (.int v3), some (.int v4), some (.int v5)], [.int v3], M)) (by decide +kernel) (hO := mm_own_183) rfl ?_
    refine mm_R_zge (t := 44) rfl rfl rfl (fun hc => ?_) (fun hc => ?_)
    · replace h := mm_ip hc h
      refine mm_Runs.seq (l := [(35, .iload_n 3, 1), (36, .iconst 1, 1), (37, .ishl, 1), (38, .ldc 120, 2), (40, .ixor, 1), (41, .goto 6, 3), (47, .istore_n 3, 1), (48, .iinc 5 1, 3), (51, .goto (-27), 3)]) (S2 := (24, [some (.ref p), z1, some (.int v2), some (.int ((mm_shl v3 (1 : Int32)) ^^^ (79764919 : Int32))), some (.int v4), some (.int (v5 + (1 : Int32)))], [], M)) (by decide +kernel) (hO := mm_own_183) rfl ?_
      cases h
      exact (show mp_183_24 L xs p n (d) v2 ((mm_shl v3 (1 : Int32)) ^^^ (79764919 : Int32)) v4 (v5 + (1 : Int32)) M o from hA) z1
    · replace h := mm_iq hc h
      refine mm_Runs.seq (l := [(44, .iload_n 3, 1), (45, .iconst 1, 1), (46, .ishl, 1), (47, .istore_n 3, 1), (48, .iinc 5 1, 3), (51, .goto (-27), 3)]) (S2 := (24, [some (.ref p), z1, some (.int v2), some (.int (mm_shl v3 (1 : Int32))), some (.int v4), some (.int (v5 + (1 : Int32)))], [], M)) (by decide +kernel) (hO := mm_own_183) rfl ?_
      cases h
      exact (show mp_183_24 L xs p n (d) v2 (mm_shl v3 (1 : Int32)) v4 (v5 + (1 : Int32)) M o from hA) z1
  · replace h := mm_iq hc h
    cases h
    exact (show mp_183_54 L xs p n (d) v2 v3 v4 M o from hA) z1 (some (.int v5))
theorem ms_183_L24 {L : Nat} {xs : Nat → Int32} {p : Nat} {n : Nat} {d : Nat} (ha : mm_aat 0 p = some n) (hd : 0 ≤ d) {v2 : Int32} {v3 : Int32} {v4 : Int32} {v5 : Int32} {β : Type} {K : β → mm_M → mm_E → Prop} {F : (Int32) → mm_M → mm_O β} {M : mm_M} {q : (β ⊕ Nat) × mm_M} {o : mm_E} (h : mm_B (mf_183_L24 p n v2 v4 (v3, v5) M) F = some q) (hA : mm_A K q o) (hx : ∀ (r : (Int32)) (M2 : mm_M), F r M2 = some q → (fun r M o => mp_183_54 L xs p n (d) v2 r v4 M o) r M2 o) : mp_183_24 L xs p n d v2 v3 v4 v5 M o := by
  unfold mf_183_L24 at h
  exact mm_R_loop (step := (fun s M => mf_183_b24 p n v2 s.1 v4 s.2 M)) (s := (v3, v5)) (M := M) (P := (fun s M o => mp_183_24 L xs p n (d) v2 s.1 v4 s.2 M o)) (X := (fun r M o => mp_183_54 L xs p n (d) v2 r v4 M o)) h hA (fun s M q hq hA => ms_183_b24 ha (v2 := v2) (v3 := s.1) (v4 := v4) (v5 := s.2) (M := M) (q := q) hd hq hA) hx
set_option maxRecDepth 8000 in
set_option maxHeartbeats 4000000 in
theorem ms_183_b5 {L : Nat} {xs : Nat → Int32} {p : Nat} {n : Nat} {d : Nat} (ha : mm_aat 0 p = some n) (hd : 0 ≤ d) {v2 : Int32} {v3 : Int32} {v4 : Int32} {M : mm_M} {q : (((Int32 × Int32) ⊕ (Int32)) ⊕ Nat) × mm_M} {o : mm_E} (h : mf_183_b5 p n v2 v3 v4 M = some q) (hA : mm_A (mm_K2 (fun s M o => mp_183_5 L xs p n (d) v2 s.1 s.2 M o) (fun r M o => mp_183_60 L xs p n (d) r M o)) q o) : mp_183_5 L xs p n d v2 v3 v4 M o := by
  unfold mf_183_b5 at h
  intro z1 z5
  show mm_Runs L xs (d) 183 (5, [some (.ref p), z1, some (.int v2), some (.int v3), some (.int v4), z5], [], M) o
  refine mm_Runs.seq (l := [(5, .iload 4, 2), (7, .iload_n 2, 1)]) (S2 := (8, [some (.ref p), z1, some (.int v2), some (.int v3), some (.int v4), z5], [.int v2, .int v4], M)) (by decide +kernel) (hO := mm_own_183) rfl ?_
  refine mm_R_ige (t := 60) rfl rfl rfl (fun hc => ?_) (fun hc => ?_)
  · replace h := mm_ip hc h
    refine mm_Runs.seq (l := [(11, .iload_n 3, 1), (12, .aload_n 0, 1), (13, .iload 4, 2)]) (S2 := (15, [some (.ref p), z1, some (.int v2), some (.int v3), some (.int v4), z5], [.int v4, .ref p, .int v3], M)) (by decide +kernel) (hO := mm_own_183) rfl ?_
    obtain ⟨hb, h⟩ := mm_gd h
    refine mm_R_iald rfl ha hb ?_
    refine mm_Runs.seq (l := [(16, .bipush 24, 2), (18, .ishl, 1), (19, .ixor, 1), (20, .istore_n 3, 1), (21, .iconst 0, 1), (22, .istore 5, 2)]) (S2 := (24, [some (.ref p), z1, some (.int v2), some (.int (v3 ^^^ (mm_shl (M.1 p v4.toNatClampNeg) (24 : Int32)))), some (.int v4), some (.int (0 : Int32))], [], M)) (by decide +kernel) (hO := mm_own_183) rfl ?_
    have hp : mp_183_24 L xs p n (d) v2 (v3 ^^^ (mm_shl (M.1 p v4.toNatClampNeg) (24 : Int32))) v4 (0 : Int32) M o := by
      refine ms_183_L24 ha hd h hA (fun r2 M1 h => ?_)
      intro y3 y4
      show mm_Runs L xs (d) 183 (54, [some (.ref p), y3, some (.int v2), some (.int r2), some (.int v4), y4], [], M1) o
      refine mm_Runs.seq (l := [(54, .iinc 4 1, 3), (57, .goto (-52), 3)]) (S2 := (5, [some (.ref p), y3, some (.int v2), some (.int r2), some (.int (v4 + (1 : Int32))), y4], [], M1)) (by decide +kernel) (hO := mm_own_183) rfl ?_
      cases h
      exact (show mp_183_5 L xs p n (d) v2 r2 (v4 + (1 : Int32)) M1 o from hA) y3 y4
    exact hp z1
  · replace h := mm_iq hc h
    cases h
    exact (show mp_183_60 L xs p n (d) v3 M o from hA) (some (.ref p)) z1 (some (.int v2)) (some (.int v4)) z5
theorem ms_183_L5 {L : Nat} {xs : Nat → Int32} {p : Nat} {n : Nat} {d : Nat} (ha : mm_aat 0 p = some n) (hd : 0 ≤ d) {v2 : Int32} {v3 : Int32} {v4 : Int32} {β : Type} {K : β → mm_M → mm_E → Prop} {F : (Int32) → mm_M → mm_O β} {M : mm_M} {q : (β ⊕ Nat) × mm_M} {o : mm_E} (h : mm_B (mf_183_L5 p n v2 (v3, v4) M) F = some q) (hA : mm_A K q o) (hx : ∀ (r : (Int32)) (M2 : mm_M), F r M2 = some q → (fun r M o => mp_183_60 L xs p n (d) r M o) r M2 o) : mp_183_5 L xs p n d v2 v3 v4 M o := by
  unfold mf_183_L5 at h
  exact mm_R_loop (step := (fun s M => mf_183_b5 p n v2 s.1 s.2 M)) (s := (v3, v4)) (M := M) (P := (fun s M o => mp_183_5 L xs p n (d) v2 s.1 s.2 M o)) (X := (fun r M o => mp_183_60 L xs p n (d) r M o)) h hA (fun s M q hq hA => ms_183_b5 ha (v2 := v2) (v3 := s.1) (v4 := s.2) (M := M) (q := q) hd hq hA) hx
set_option maxRecDepth 8000 in
set_option maxHeartbeats 4000000 in
theorem ms_183 {L : Nat} {xs : Nat → Int32} {p : Nat} {n : Nat} {d : Nat} (ha : mm_aat 0 p = some n) (hd : 0 ≤ d) {v1 : Int32} {v2 : Int32} {M : mm_M} {q : (Int32 ⊕ Nat) × mm_M} {o : mm_E} (h : mf_183 p n v1 v2 M = some q) (hA : mm_A (mm_Kr mm_wi) q o) : mm_Runs L xs d 183 (0, mm_ent (mm_ml 183) [.ref p, .int v1, .int v2], [], M) o := by
  unfold mf_183 at h
  show mm_Runs L xs (d) 183 (0, [some (.ref p), some (.int v1), some (.int v2), none, none, none], [], M) o
  refine mm_Runs.seq (l := [(0, .iconst (-1), 1), (1, .istore_n 3, 1), (2, .iload_n 1, 1), (3, .istore 4, 2)]) (S2 := (5, [some (.ref p), some (.int v1), some (.int v2), some (.int (-1 : Int32)), some (.int v1), none], [], M)) (by decide +kernel) (hO := mm_own_183) rfl ?_
  have hp : mp_183_5 L xs p n (d) v2 (-1 : Int32) v1 M o := by
    refine ms_183_L5 ha hd h hA (fun r2 M1 h => ?_)
    intro y3 y4 y5 y6 y7
    show mm_Runs L xs (d) 183 (60, [y3, y4, y5, some (.int r2), y6, y7], [], M1) o
    refine mm_Runs.seq (l := [(60, .iload_n 3, 1), (61, .iconst (-1), 1), (62, .ixor, 1)]) (S2 := (63, [y3, y4, y5, some (.int r2), y6, y7], [.int (r2 ^^^ (-1 : Int32))], M1)) (by decide +kernel) (hO := mm_own_183) rfl ?_
    cases h
    exact mm_R_reti rfl rfl hA
  exact hp (some (.int v1)) none
-- 224: PlainPacksModel.sortedBlock()I (depth 5)
theorem mm_own_224 : mm_own 224 = 12 := rfl
def mp_224_41 (L : Nat) (xs : Nat → Int32) (d : Nat) (v1 : Int32) (M : mm_M) (o : mm_E) : Prop := ∀ z2 z3 z4 : Option Value, mm_Runs L xs d 224 (41, [some (.ref 84), some (.int v1), z2, z3, z4], [], M) o
def mp_224_92 (L : Nat) (xs : Nat → Int32) (d : Nat) (v1 : Int32) (v2 : Int32) (v3 : Int32) (M : mm_M) (o : mm_E) : Prop := ∀ z4 : Option Value, mm_Runs L xs d 224 (92, [some (.ref 84), some (.int v1), some (.int v2), some (.int v3), z4], [], M) o
def mp_224_96 (L : Nat) (xs : Nat → Int32) (d : Nat) (v1 : Int32) (v2 : Int32) (v3 : Int32) (M : mm_M) (o : mm_E) : Prop := ∀ z4 : Option Value, mm_Runs L xs d 224 (96, [some (.ref 84), some (.int v1), some (.int v2), some (.int v3), z4], [], M) o
def mp_224_125 (L : Nat) (xs : Nat → Int32) (d : Nat) (v1 : Int32) (v2 : Int32) (v3 : Int32) (M : mm_M) (o : mm_E) : Prop := ∀ z4 : Option Value, mm_Runs L xs d 224 (125, [some (.ref 84), some (.int v1), some (.int v2), some (.int v3), z4], [], M) o
def mp_224_132 (L : Nat) (xs : Nat → Int32) (d : Nat) (v1 : Int32) (v2 : Int32) (v3 : Int32) (v4 : Int32) (M : mm_M) (o : mm_E) : Prop := mm_Runs L xs d 224 (132, [some (.ref 84), some (.int v1), some (.int v2), some (.int v3), some (.int v4)], [], M) o
def mp_224_163 (L : Nat) (xs : Nat → Int32) (d : Nat) (v1 : Int32) (v2 : Int32) (v3 : Int32) (M : mm_M) (o : mm_E) : Prop := ∀ z4 : Option Value, mm_Runs L xs d 224 (163, [some (.ref 84), some (.int v1), some (.int v2), some (.int v3), z4], [], M) o
set_option maxRecDepth 8000 in
set_option maxHeartbeats 4000000 in
theorem ms_224_b132 {L : Nat} {xs : Nat → Int32} {d : Nat} (hd : 5 ≤ d) {v1 : Int32} {v2 : Int32} {v3 : Int32} {v4 : Int32} {M : mm_M} {q : (((Int32) ⊕ (Unit)) ⊕ Nat) × mm_M} {o : mm_E} (h : mf_224_b132 v1 v2 v3 v4 M = some q) (hA : mm_A (mm_K2 (fun s M o => mp_224_132 L xs (d) v1 v2 v3 s M o) (fun r M o => mp_224_163 L xs (d) v1 v2 v3 M o)) q o) : mp_224_132 L xs d v1 v2 v3 v4 M o := by
  unfold mf_224_b132 at h
  obtain ⟨d, rfl⟩ := mm_d1 (n := 4) hd
  show mm_Runs L xs (d + 1) 224 (132, [some (.ref 84), some (.int v1), some (.int v2), some (.int v3), some (.int v4)], [], M) o
  refine mm_Runs.seq (l := [(132, .iload 4, 2), (134, .aload_n 0, 1), (135, .getfield 292, 3)]) (S2 := (138, [some (.ref 84), some (.int v1), some (.int v2), some (.int v3), some (.int v4)], [.int (M.1 84 29), .int v4], M)) (by decide +kernel) (hO := mm_own_224) rfl ?_
  refine mm_R_ige (t := 163) rfl rfl rfl (fun hc => ?_) (fun hc => ?_)
  · replace h := mm_ip hc h
    refine mm_Runs.seq (l := [(141, .aload_n 0, 1), (142, .getfield 154, 3)]) (S2 := (145, [some (.ref 84), some (.int v1), some (.int v2), some (.int v3), some (.int v4)], [.int (M.1 84 7)], M)) (by decide +kernel) (hO := mm_own_224) rfl ?_
    refine mm_R_zne (t := 163) rfl rfl rfl (fun hc => ?_) (fun hc => ?_)
    · replace h := mm_ip hc h
      refine mm_Runs.seq (l := [(148, .aload_n 0, 1), (149, .iload 4, 2), (151, .iload_n 3, 1), (152, .iconst 2, 1), (153, .iadd, 1)]) (S2 := (154, [some (.ref 84), some (.int v1), some (.int v2), some (.int v3), some (.int v4)], [.int (v3 + (2 : Int32)), .int v4, .ref 84], M)) (by decide +kernel) (hO := mm_own_224) rfl ?_
      refine mm_R_call (v := mm_wv) h hA (k2 := 227) (as := [.ref 84, .int v4, .int (v3 + (2 : Int32))]) (r := []) rfl (fun _ => rfl) (fun q hq o ho => ms_227 (by omega) hq ho) (fun _ M1 h => ?_)
      show mm_Runs L xs (d + 1) 224 (157, [some (.ref 84), some (.int v1), some (.int v2), some (.int v3), some (.int v4)], [], M1) o
      refine mm_Runs.seq (l := [(157, .iinc 4 1, 3), (160, .goto (-28), 3)]) (S2 := (132, [some (.ref 84), some (.int v1), some (.int v2), some (.int v3), some (.int (v4 + (1 : Int32)))], [], M1)) (by decide +kernel) (hO := mm_own_224) rfl ?_
      cases h
      exact (show mp_224_132 L xs (d + 1) v1 v2 v3 (v4 + (1 : Int32)) M1 o from hA)
    · replace h := mm_iq hc h
      cases h
      exact (show mp_224_163 L xs (d + 1) v1 v2 v3 M o from hA) (some (.int v4))
  · replace h := mm_iq hc h
    cases h
    exact (show mp_224_163 L xs (d + 1) v1 v2 v3 M o from hA) (some (.int v4))
theorem ms_224_L132 {L : Nat} {xs : Nat → Int32} {d : Nat} (hd : 5 ≤ d) {v1 : Int32} {v2 : Int32} {v3 : Int32} {v4 : Int32} {β : Type} {K : β → mm_M → mm_E → Prop} {F : (Unit) → mm_M → mm_O β} {M : mm_M} {q : (β ⊕ Nat) × mm_M} {o : mm_E} (h : mm_B (mf_224_L132 v1 v2 v3 v4 M) F = some q) (hA : mm_A K q o) (hx : ∀ (r : (Unit)) (M2 : mm_M), F r M2 = some q → (fun r M o => mp_224_163 L xs (d) v1 v2 v3 M o) r M2 o) : mp_224_132 L xs d v1 v2 v3 v4 M o := by
  unfold mf_224_L132 at h
  exact mm_R_loop (step := (fun s M => mf_224_b132 v1 v2 v3 s M)) (s := v4) (M := M) (P := (fun s M o => mp_224_132 L xs (d) v1 v2 v3 s M o)) (X := (fun r M o => mp_224_163 L xs (d) v1 v2 v3 M o)) h hA (fun s M q hq hA => ms_224_b132 (v1 := v1) (v2 := v2) (v3 := v3) (v4 := s) (M := M) (q := q) hd hq hA) hx
def mp_224_189 (L : Nat) (xs : Nat → Int32) (d : Nat) (v1 : Int32) (v2 : Int32) (M : mm_M) (o : mm_E) : Prop := ∀ z3 z4 : Option Value, mm_Runs L xs d 224 (189, [some (.ref 84), some (.int v1), some (.int v2), z3, z4], [], M) o
set_option maxRecDepth 8000 in
set_option maxHeartbeats 4000000 in
theorem ms_224_j189 {L : Nat} {xs : Nat → Int32} {d : Nat} (hd : 5 ≤ d) {v1 : Int32} {v2 : Int32} {M : mm_M} {q : (Int32 ⊕ Nat) × mm_M} {o : mm_E} (h : mf_224_j189 v1 v2 M = some q) (hA : mm_A (mm_Kr mm_wi) q o) : mp_224_189 L xs d v1 v2 M o := by
  unfold mf_224_j189 at h
  obtain ⟨d, rfl⟩ := mm_d1 (n := 4) hd
  intro z3 z4
  show mm_Runs L xs (d + 1) 224 (189, [some (.ref 84), some (.int v1), some (.int v2), z3, z4], [], M) o
  refine mm_Runs.seq (l := [(189, .aload_n 0, 1), (190, .getfield 98, 3), (193, .istore 4, 2), (195, .aload_n 0, 1), (196, .iload_n 2, 1)]) (S2 := (197, [some (.ref 84), some (.int v1), some (.int v2), (mm_no2 z3), some (.int (M.1 84 4))], [.int v2, .ref 84], M)) (by decide +kernel) (hO := mm_own_224) rfl ?_
  refine mm_R_call (v := mm_wv) h hA (k2 := 231) (as := [.ref 84, .int v2]) (r := []) rfl (fun _ => rfl) (fun q hq o ho => ms_231 (by omega) hq ho) (fun _ M1 h => ?_)
  show mm_Runs L xs (d + 1) 224 (200, [some (.ref 84), some (.int v1), some (.int v2), (mm_no2 z3), some (.int (M.1 84 4))], [], M1) o
  refine mm_Runs.seq (l := [(200, .aload_n 0, 1), (201, .getfield 154, 3)]) (S2 := (204, [some (.ref 84), some (.int v1), some (.int v2), (mm_no2 z3), some (.int (M.1 84 4))], [.int (M1.1 84 7)], M1)) (by decide +kernel) (hO := mm_own_224) rfl ?_
  refine mm_R_zne (t := 228) rfl rfl rfl (fun hc => ?_) (fun hc => ?_)
  · replace h := mm_ip hc h
    refine mm_Runs.seq (l := [(207, .aload_n 0, 1), (208, .getfield 13, 3), (211, .iload 4, 2), (213, .aload_n 0, 1), (214, .getfield 98, 3)]) (S2 := (217, [some (.ref 84), some (.int v1), some (.int v2), (mm_no2 z3), some (.int (M.1 84 4))], [.int (M1.1 84 4), .int (M.1 84 4), .ref 86], M1)) (by decide +kernel) (hO := mm_own_224) rfl ?_
    refine mm_R_call (v := mm_wi) h hA (k2 := 183) (as := [.ref 86, .int (M.1 84 4), .int (M1.1 84 4)]) (r := []) rfl (fun _ => rfl) (fun q hq o ho => ms_183 rfl (by omega) hq ho) (fun r2 M3 h => ?_)
    show mm_Runs L xs (d + 1) 224 (220, [some (.ref 84), some (.int v1), some (.int v2), (mm_no2 z3), some (.int (M.1 84 4))], [.int r2], M3) o
    refine mm_Runs.seq (l := [(220, .iload_n 1, 1)]) (S2 := (221, [some (.ref 84), some (.int v1), some (.int v2), (mm_no2 z3), some (.int (M.1 84 4))], [.int v1, .int r2], M3)) (by decide +kernel) (hO := mm_own_224) rfl ?_
    refine mm_R_ieq (t := 228) rfl rfl rfl (fun hc => ?_) (fun hc => ?_)
    · replace h := mm_ip hc h
      refine mm_Runs.seq (l := [(228, .iload_n 1, 1)]) (S2 := (229, [some (.ref 84), some (.int v1), some (.int v2), (mm_no2 z3), some (.int (M.1 84 4))], [.int v1], M3)) (by decide +kernel) (hO := mm_own_224) rfl ?_
      cases h
      exact mm_R_reti rfl rfl hA
    · replace h := mm_iq hc h
      refine mm_Runs.seq (l := [(224, .aload_n 0, 1)]) (S2 := (225, [some (.ref 84), some (.int v1), some (.int v2), (mm_no2 z3), some (.int (M.1 84 4))], [.ref 84], M3)) (by decide +kernel) (hO := mm_own_224) rfl ?_
      refine mm_R_call (v := mm_wv) h hA (k2 := 190) (as := [.ref 84]) (r := []) rfl (fun _ => rfl) (fun q hq o ho => ms_190 (by omega) hq ho) (fun _ M4 h => ?_)
      show mm_Runs L xs (d + 1) 224 (228, [some (.ref 84), some (.int v1), some (.int v2), (mm_no2 z3), some (.int (M.1 84 4))], [], M4) o
      refine mm_Runs.seq (l := [(228, .iload_n 1, 1)]) (S2 := (229, [some (.ref 84), some (.int v1), some (.int v2), (mm_no2 z3), some (.int (M.1 84 4))], [.int v1], M4)) (by decide +kernel) (hO := mm_own_224) rfl ?_
      cases h
      exact mm_R_reti rfl rfl hA
  · replace h := mm_iq hc h
    refine mm_Runs.seq (l := [(228, .iload_n 1, 1)]) (S2 := (229, [some (.ref 84), some (.int v1), some (.int v2), (mm_no2 z3), some (.int (M.1 84 4))], [.int v1], M1)) (by decide +kernel) (hO := mm_own_224) rfl ?_
    cases h
    exact mm_R_reti rfl rfl hA
set_option maxRecDepth 8000 in
set_option maxHeartbeats 4000000 in
theorem ms_224_j163 {L : Nat} {xs : Nat → Int32} {d : Nat} (hd : 5 ≤ d) {v1 : Int32} {v2 : Int32} {v3 : Int32} {M : mm_M} {q : (Int32 ⊕ Nat) × mm_M} {o : mm_E} (h : mf_224_j163 v1 v2 v3 M = some q) (hA : mm_A (mm_Kr mm_wi) q o) : mp_224_163 L xs d v1 v2 v3 M o := by
  unfold mf_224_j163 at h
  obtain ⟨d, rfl⟩ := mm_d1 (n := 4) hd
  intro z4
  show mm_Runs L xs (d + 1) 224 (163, [some (.ref 84), some (.int v1), some (.int v2), some (.int v3), z4], [], M) o
  refine mm_Runs.seq (l := [(163, .aload_n 0, 1), (164, .iload_n 3, 1), (165, .iconst 2, 1), (166, .iadd, 1)]) (S2 := (167, [some (.ref 84), some (.int v1), some (.int v2), some (.int v3), z4], [.int (v3 + (2 : Int32)), .ref 84], M)) (by decide +kernel) (hO := mm_own_224) rfl ?_
  refine mm_R_call (v := mm_wv) h hA (k2 := 228) (as := [.ref 84, .int (v3 + (2 : Int32))]) (r := []) rfl (fun _ => rfl) (fun q hq o ho => ms_228 (by omega) hq ho) (fun _ M1 h => ?_)
  show mm_Runs L xs (d + 1) 224 (170, [some (.ref 84), some (.int v1), some (.int v2), some (.int v3), z4], [], M1) o
  refine mm_Runs.seq (l := [(170, .aload_n 0, 1), (171, .getfield 154, 3)]) (S2 := (174, [some (.ref 84), some (.int v1), some (.int v2), some (.int v3), z4], [.int (M1.1 84 7)], M1)) (by decide +kernel) (hO := mm_own_224) rfl ?_
  refine mm_R_zne (t := 189) rfl rfl rfl (fun hc => ?_) (fun hc => ?_)
  · replace h := mm_ip hc h
    refine mm_Runs.seq (l := [(177, .iload_n 2, 1), (178, .aload_n 0, 1), (179, .getfield 307, 3)]) (S2 := (182, [some (.ref 84), some (.int v1), some (.int v2), some (.int v3), z4], [.int (M1.1 84 28), .int v2], M1)) (by decide +kernel) (hO := mm_own_224) rfl ?_
    refine mm_R_ilt (t := 189) rfl rfl rfl (fun hc => ?_) (fun hc => ?_)
    · replace h := mm_ip hc h
      exact (ms_224_j189 hd h hA : mp_224_189 L xs (d + 1) v1 v2 M1 o) (some (.int v3)) z4
    · replace h := mm_iq hc h
      refine mm_Runs.seq (l := [(185, .aload_n 0, 1)]) (S2 := (186, [some (.ref 84), some (.int v1), some (.int v2), some (.int v3), z4], [.ref 84], M1)) (by decide +kernel) (hO := mm_own_224) rfl ?_
      refine mm_R_call (v := mm_wv) h hA (k2 := 190) (as := [.ref 84]) (r := []) rfl (fun _ => rfl) (fun q hq o ho => ms_190 (by omega) hq ho) (fun _ M2 h => ?_)
      show mm_Runs L xs (d + 1) 224 (189, [some (.ref 84), some (.int v1), some (.int v2), some (.int v3), z4], [], M2) o
      exact (ms_224_j189 hd h hA : mp_224_189 L xs (d + 1) v1 v2 M2 o) (some (.int v3)) z4
  · replace h := mm_iq hc h
    exact (ms_224_j189 hd h hA : mp_224_189 L xs (d + 1) v1 v2 M1 o) (some (.int v3)) z4
set_option maxRecDepth 8000 in
set_option maxHeartbeats 4000000 in
theorem ms_224_j125 {L : Nat} {xs : Nat → Int32} {d : Nat} (hd : 5 ≤ d) {v1 : Int32} {v2 : Int32} {v3 : Int32} {M : mm_M} {q : (Int32 ⊕ Nat) × mm_M} {o : mm_E} (h : mf_224_j125 v1 v2 v3 M = some q) (hA : mm_A (mm_Kr mm_wi) q o) : mp_224_125 L xs d v1 v2 v3 M o := by
  unfold mf_224_j125 at h
  obtain ⟨d, rfl⟩ := mm_d1 (n := 4) hd
  intro z4
  show mm_Runs L xs (d + 1) 224 (125, [some (.ref 84), some (.int v1), some (.int v2), some (.int v3), z4], [], M) o
  refine mm_Runs.seq (l := [(125, .aload_n 0, 1)]) (S2 := (126, [some (.ref 84), some (.int v1), some (.int v2), some (.int v3), z4], [.ref 84], M)) (by decide +kernel) (hO := mm_own_224) rfl ?_
  refine mm_R_call (v := mm_wv) h hA (k2 := 226) (as := [.ref 84]) (r := []) rfl (fun _ => rfl) (fun q hq o ho => ms_226 (by omega) hq ho) (fun _ M1 h => ?_)
  show mm_Runs L xs (d + 1) 224 (129, [some (.ref 84), some (.int v1), some (.int v2), some (.int v3), z4], [], M1) o
  refine mm_Runs.seq (l := [(129, .iconst 0, 1), (130, .istore 4, 2)]) (S2 := (132, [some (.ref 84), some (.int v1), some (.int v2), some (.int v3), some (.int (0 : Int32))], [], M1)) (by decide +kernel) (hO := mm_own_224) rfl ?_
  have hp : mp_224_132 L xs (d + 1) v1 v2 v3 (0 : Int32) M1 o := by
    refine ms_224_L132 hd h hA (fun r3 M2 h => ?_)
    intro y4
    show mm_Runs L xs (d + 1) 224 (163, [some (.ref 84), some (.int v1), some (.int v2), some (.int v3), y4], [], M2) o
    exact (ms_224_j163 hd h hA : mp_224_163 L xs (d + 1) v1 v2 v3 M2 o) y4
  exact hp
set_option maxRecDepth 8000 in
set_option maxHeartbeats 4000000 in
theorem ms_224_j96 {L : Nat} {xs : Nat → Int32} {d : Nat} (hd : 5 ≤ d) {v1 : Int32} {v2 : Int32} {v3 : Int32} {M : mm_M} {q : (Int32 ⊕ Nat) × mm_M} {o : mm_E} (h : mf_224_j96 v1 v2 v3 M = some q) (hA : mm_A (mm_Kr mm_wi) q o) : mp_224_96 L xs d v1 v2 v3 M o := by
  unfold mf_224_j96 at h
  obtain ⟨d, rfl⟩ := mm_d1 (n := 4) hd
  intro z4
  show mm_Runs L xs (d + 1) 224 (96, [some (.ref 84), some (.int v1), some (.int v2), some (.int v3), z4], [], M) o
  refine mm_Runs.seq (l := [(96, .aload_n 0, 1), (97, .aload_n 0, 1), (98, .bipush 15, 2)]) (S2 := (100, [some (.ref 84), some (.int v1), some (.int v2), some (.int v3), z4], [.int (15 : Int32), .ref 84, .ref 84], M)) (by decide +kernel) (hO := mm_own_224) rfl ?_
  refine mm_R_call (v := mm_wl) h hA (k2 := 198) (as := [.ref 84, .int (15 : Int32)]) (r := [.ref 84]) rfl (fun _ => rfl) (fun q hq o ho => ms_198 (by omega) hq ho) (fun r1 M2 h => ?_)
  show mm_Runs L xs (d + 1) 224 (103, [some (.ref 84), some (.int v1), some (.int v2), some (.int v3), z4], [.long r1, .ref 84], M2) o
  refine mm_Runs.seq (l := [(103, .l2i, 1), (104, .putfield 295, 3), (107, .aload_n 0, 1), (108, .getfield 154, 3)]) (S2 := (111, [some (.ref 84), some (.int v1), some (.int v2), some (.int v3), z4], [.int (M2.1 84 7)], (mm_pi M2 84 30 r1.toInt32))) (by decide +kernel) (hO := mm_own_224) rfl ?_
  refine mm_R_zne (t := 125) rfl rfl rfl (fun hc => ?_) (fun hc => ?_)
  · replace h := mm_ip hc h
    refine mm_Runs.seq (l := [(114, .aload_n 0, 1), (115, .getfield 295, 3)]) (S2 := (118, [some (.ref 84), some (.int v1), some (.int v2), some (.int v3), z4], [.int r1.toInt32], (mm_pi M2 84 30 r1.toInt32))) (by decide +kernel) (hO := mm_own_224) rfl ?_
    refine mm_R_zne (t := 125) rfl rfl rfl (fun hc => ?_) (fun hc => ?_)
    · replace h := mm_ip hc h
      refine mm_Runs.seq (l := [(121, .aload_n 0, 1)]) (S2 := (122, [some (.ref 84), some (.int v1), some (.int v2), some (.int v3), z4], [.ref 84], (mm_pi M2 84 30 r1.toInt32))) (by decide +kernel) (hO := mm_own_224) rfl ?_
      refine mm_R_call (v := mm_wv) h hA (k2 := 190) (as := [.ref 84]) (r := []) rfl (fun _ => rfl) (fun q hq o ho => ms_190 (by omega) hq ho) (fun _ M3 h => ?_)
      show mm_Runs L xs (d + 1) 224 (125, [some (.ref 84), some (.int v1), some (.int v2), some (.int v3), z4], [], M3) o
      exact (ms_224_j125 hd h hA : mp_224_125 L xs (d + 1) v1 v2 v3 M3 o) z4
    · replace h := mm_iq hc h
      exact (ms_224_j125 hd h hA : mp_224_125 L xs (d + 1) v1 v2 v3 (mm_pi M2 84 30 r1.toInt32) o) z4
  · replace h := mm_iq hc h
    exact (ms_224_j125 hd h hA : mp_224_125 L xs (d + 1) v1 v2 v3 (mm_pi M2 84 30 r1.toInt32) o) z4
set_option maxRecDepth 8000 in
set_option maxHeartbeats 4000000 in
theorem ms_224_j92 {L : Nat} {xs : Nat → Int32} {d : Nat} (hd : 5 ≤ d) {v1 : Int32} {v2 : Int32} {v3 : Int32} {M : mm_M} {q : (Int32 ⊕ Nat) × mm_M} {o : mm_E} (h : mf_224_j92 v1 v2 v3 M = some q) (hA : mm_A (mm_Kr mm_wi) q o) : mp_224_92 L xs d v1 v2 v3 M o := by
  unfold mf_224_j92 at h
  obtain ⟨d, rfl⟩ := mm_d1 (n := 4) hd
  intro z4
  show mm_Runs L xs (d + 1) 224 (92, [some (.ref 84), some (.int v1), some (.int v2), some (.int v3), z4], [], M) o
  refine mm_Runs.seq (l := [(92, .aload_n 0, 1)]) (S2 := (93, [some (.ref 84), some (.int v1), some (.int v2), some (.int v3), z4], [.ref 84], M)) (by decide +kernel) (hO := mm_own_224) rfl ?_
  refine mm_R_call (v := mm_wv) h hA (k2 := 190) (as := [.ref 84]) (r := []) rfl (fun _ => rfl) (fun q hq o ho => ms_190 (by omega) hq ho) (fun _ M1 h => ?_)
  show mm_Runs L xs (d + 1) 224 (96, [some (.ref 84), some (.int v1), some (.int v2), some (.int v3), z4], [], M1) o
  exact (ms_224_j96 hd h hA : mp_224_96 L xs (d + 1) v1 v2 v3 M1 o) z4
set_option maxRecDepth 8000 in
set_option maxHeartbeats 4000000 in
theorem ms_224_j41 {L : Nat} {xs : Nat → Int32} {d : Nat} (hd : 5 ≤ d) {v1 : Int32} {M : mm_M} {q : (Int32 ⊕ Nat) × mm_M} {o : mm_E} (h : mf_224_j41 v1 M = some q) (hA : mm_A (mm_Kr mm_wi) q o) : mp_224_41 L xs d v1 M o := by
  unfold mf_224_j41 at h
  obtain ⟨d, rfl⟩ := mm_d1 (n := 4) hd
  intro z2 z3 z4
  show mm_Runs L xs (d + 1) 224 (41, [some (.ref 84), some (.int v1), z2, z3, z4], [], M) o
  refine mm_Runs.seq (l := [(41, .aload_n 0, 1), (42, .bipush 24, 2)]) (S2 := (44, [some (.ref 84), some (.int v1), z2, z3, z4], [.int (24 : Int32), .ref 84], M)) (by decide +kernel) (hO := mm_own_224) rfl ?_
  refine mm_R_call (v := mm_wl) h hA (k2 := 198) (as := [.ref 84, .int (24 : Int32)]) (r := []) rfl (fun _ => rfl) (fun q hq o ho => ms_198 (by omega) hq ho) (fun r1 M2 h => ?_)
  show mm_Runs L xs (d + 1) 224 (47, [some (.ref 84), some (.int v1), z2, z3, z4], [.long r1], M2) o
  refine mm_Runs.seq (l := [(47, .l2i, 1), (48, .istore_n 2, 1), (49, .aload_n 0, 1)]) (S2 := (50, [some (.ref 84), some (.int v1), some (.int r1.toInt32), z3, z4], [.ref 84], M2)) (by decide +kernel) (hO := mm_own_224) rfl ?_
  refine mm_R_call (v := mm_wv) h hA (k2 := 225) (as := [.ref 84]) (r := []) rfl (fun _ => rfl) (fun q hq o ho => ms_225 (by omega) hq ho) (fun _ M3 h => ?_)
  show mm_Runs L xs (d + 1) 224 (53, [some (.ref 84), some (.int v1), some (.int r1.toInt32), z3, z4], [], M3) o
  refine mm_Runs.seq (l := [(53, .aload_n 0, 1), (54, .getfield 215, 3), (57, .istore_n 3, 1), (58, .aload_n 0, 1), (59, .aload_n 0, 1), (60, .iconst 3, 1)]) (S2 := (61, [some (.ref 84), some (.int v1), some (.int r1.toInt32), some (.int (M3.1 84 20)), z4], [.int (3 : Int32), .ref 84, .ref 84], M3)) (by decide +kernel) (hO := mm_own_224) rfl ?_
  refine mm_R_call (v := mm_wl) h hA (k2 := 198) (as := [.ref 84, .int (3 : Int32)]) (r := [.ref 84]) rfl (fun _ => rfl) (fun q hq o ho => ms_198 (by omega) hq ho) (fun r4 M5 h => ?_)
  show mm_Runs L xs (d + 1) 224 (64, [some (.ref 84), some (.int v1), some (.int r1.toInt32), some (.int (M3.1 84 20)), z4], [.long r4, .ref 84], M5) o
  refine mm_Runs.seq (l := [(64, .l2i, 1), (65, .putfield 292, 3), (68, .aload_n 0, 1), (69, .getfield 154, 3)]) (S2 := (72, [some (.ref 84), some (.int v1), some (.int r1.toInt32), some (.int (M3.1 84 20)), z4], [.int (M5.1 84 7)], (mm_pi M5 84 29 r4.toInt32))) (by decide +kernel) (hO := mm_own_224) rfl ?_
  refine mm_R_zne (t := 96) rfl rfl rfl (fun hc => ?_) (fun hc => ?_)
  · replace h := mm_ip hc h
    refine mm_Runs.seq (l := [(75, .aload_n 0, 1), (76, .getfield 292, 3), (79, .iconst 2, 1)]) (S2 := (80, [some (.ref 84), some (.int v1), some (.int r1.toInt32), some (.int (M3.1 84 20)), z4], [.int (2 : Int32), .int r4.toInt32], (mm_pi M5 84 29 r4.toInt32))) (by decide +kernel) (hO := mm_own_224) rfl ?_
    refine mm_R_ilt (t := 92) rfl rfl rfl (fun hc => ?_) (fun hc => ?_)
    · replace h := mm_ip hc h
      exact (ms_224_j92 hd h hA : mp_224_92 L xs (d + 1) v1 r1.toInt32 (M3.1 84 20) (mm_pi M5 84 29 r4.toInt32) o) z4
    · replace h := mm_iq hc h
      refine mm_Runs.seq (l := [(83, .aload_n 0, 1), (84, .getfield 292, 3), (87, .bipush 6, 2)]) (S2 := (89, [some (.ref 84), some (.int v1), some (.int r1.toInt32), some (.int (M3.1 84 20)), z4], [.int (6 : Int32), .int r4.toInt32], (mm_pi M5 84 29 r4.toInt32))) (by decide +kernel) (hO := mm_own_224) rfl ?_
      refine mm_R_ile (t := 96) rfl rfl rfl (fun hc => ?_) (fun hc => ?_)
      · replace h := mm_ip hc h
        exact (ms_224_j92 hd h hA : mp_224_92 L xs (d + 1) v1 r1.toInt32 (M3.1 84 20) (mm_pi M5 84 29 r4.toInt32) o) z4
      · replace h := mm_iq hc h
        exact (ms_224_j96 hd h hA : mp_224_96 L xs (d + 1) v1 r1.toInt32 (M3.1 84 20) (mm_pi M5 84 29 r4.toInt32) o) z4
  · replace h := mm_iq hc h
    exact (ms_224_j96 hd h hA : mp_224_96 L xs (d + 1) v1 r1.toInt32 (M3.1 84 20) (mm_pi M5 84 29 r4.toInt32) o) z4
set_option maxRecDepth 8000 in
set_option maxHeartbeats 4000000 in
theorem ms_224 {L : Nat} {xs : Nat → Int32} {d : Nat} (hd : 5 ≤ d) {M : mm_M} {q : (Int32 ⊕ Nat) × mm_M} {o : mm_E} (h : mf_224 M = some q) (hA : mm_A (mm_Kr mm_wi) q o) : mm_Runs L xs d 224 (0, mm_ent (mm_ml 224) [.ref 84], [], M) o := by
  unfold mf_224 at h
  obtain ⟨d, rfl⟩ := mm_d1 (n := 4) hd
  show mm_Runs L xs (d + 1) 224 (0, [some (.ref 84), none, none, none, none], [], M) o
  refine mm_Runs.seq (l := [(0, .aload_n 0, 1), (1, .bipush 32, 2)]) (S2 := (3, [some (.ref 84), none, none, none, none], [.int (32 : Int32), .ref 84], M)) (by decide +kernel) (hO := mm_own_224) rfl ?_
  refine mm_R_call (v := mm_wl) h hA (k2 := 198) (as := [.ref 84, .int (32 : Int32)]) (r := []) rfl (fun _ => rfl) (fun q hq o ho => ms_198 (by omega) hq ho) (fun r1 M2 h => ?_)
  show mm_Runs L xs (d + 1) 224 (6, [some (.ref 84), none, none, none, none], [.long r1], M2) o
  refine mm_Runs.seq (l := [(6, .l2i, 1), (7, .istore_n 1, 1), (8, .aload_n 0, 1), (9, .getfield 154, 3)]) (S2 := (12, [some (.ref 84), some (.int r1.toInt32), none, none, none], [.int (M2.1 84 7)], M2)) (by decide +kernel) (hO := mm_own_224) rfl ?_
  refine mm_R_zeq (t := 17) rfl rfl rfl (fun hc => ?_) (fun hc => ?_)
  · replace h := mm_ip hc h
    refine mm_Runs.seq (l := [(17, .aload_n 0, 1), (18, .dup, 1), (19, .getfield 116, 3), (22, .iconst 1, 1), (23, .iadd, 1), (24, .putfield 116, 3), (27, .aload_n 0, 1), (28, .iconst 1, 1)]) (S2 := (29, [some (.ref 84), some (.int r1.toInt32), none, none, none], [.int (1 : Int32), .ref 84], (mm_pi M2 84 12 ((M2.1 84 12) + (1 : Int32))))) (by decide +kernel) (hO := mm_own_224) rfl ?_
    refine mm_R_call (v := mm_wl) h hA (k2 := 198) (as := [.ref 84, .int (1 : Int32)]) (r := []) rfl (fun _ => rfl) (fun q hq o ho => ms_198 (by omega) hq ho) (fun r3 M4 h => ?_)
    show mm_Runs L xs (d + 1) 224 (32, [some (.ref 84), some (.int r1.toInt32), none, none, none], [.long r3], M4) o
    refine mm_Runs.seq (l := [(32, .lconst 1, 1)]) (S2 := (33, [some (.ref 84), some (.int r1.toInt32), none, none, none], [.long (1 : Int64), .long r3], M4)) (by decide +kernel) (hO := mm_own_224) rfl ?_
    refine mm_R_lne (t := 41) rfl rfl rfl rfl (fun hc => ?_) (fun hc => ?_)
    · replace h := mm_ip hc h
      refine mm_Runs.seq (l := [(37, .aload_n 0, 1)]) (S2 := (38, [some (.ref 84), some (.int r1.toInt32), none, none, none], [.ref 84], M4)) (by decide +kernel) (hO := mm_own_224) rfl ?_
      refine mm_R_call (v := mm_wv) h hA (k2 := 190) (as := [.ref 84]) (r := []) rfl (fun _ => rfl) (fun q hq o ho => ms_190 (by omega) hq ho) (fun _ M5 h => ?_)
      show mm_Runs L xs (d + 1) 224 (41, [some (.ref 84), some (.int r1.toInt32), none, none, none], [], M5) o
      exact (ms_224_j41 hd h hA : mp_224_41 L xs (d + 1) r1.toInt32 M5 o) none none none
    · replace h := mm_iq hc h
      exact (ms_224_j41 hd h hA : mp_224_41 L xs (d + 1) r1.toInt32 M4 o) none none none
  · replace h := mm_iq hc h
    refine mm_Runs.seq (l := [(15, .iconst 0, 1)]) (S2 := (16, [some (.ref 84), some (.int r1.toInt32), none, none, none], [.int (0 : Int32)], M2)) (by decide +kernel) (hO := mm_own_224) rfl ?_
    cases h
    exact mm_R_reti rfl rfl hA
-- 223: PlainPacksModel.sorted()V (depth 6)
theorem mm_own_223 : mm_own 223 = 12 := rfl
def mp_223_42 (L : Nat) (xs : Nat → Int32) (d : Nat) (M : mm_M) (o : mm_E) : Prop := ∀ z1 z2 z3 z4 z5 z6 : Option Value, mm_Runs L xs d 223 (42, [some (.ref 84), z1, z2, z3, z4, z5, z6], [], M) o
def mp_223_60 (L : Nat) (xs : Nat → Int32) (d : Nat) (v2 : Int32) (v3 : Int32) (M : mm_M) (o : mm_E) : Prop := ∀ z1 z4 z5 z6 : Option Value, mm_Runs L xs d 223 (60, [some (.ref 84), z1, some (.int v2), some (.int v3), z4, z5, z6], [], M) o
def mp_223_141 (L : Nat) (xs : Nat → Int32) (d : Nat) (v2 : Int32) (M : mm_M) (o : mm_E) : Prop := ∀ z1 z3 z4 z5 z6 : Option Value, mm_Runs L xs d 223 (141, [some (.ref 84), z1, some (.int v2), z3, z4, z5, z6], [], M) o
def mp_223_116 (L : Nat) (xs : Nat → Int32) (d : Nat) (v2 : Int32) (v3 : Int32) (M : mm_M) (o : mm_E) : Prop := ∀ z1 z4 z5 z6 : Option Value, mm_Runs L xs d 223 (116, [some (.ref 84), z1, some (.int v2), some (.int v3), z4, z5, z6], [], M) o
set_option maxRecDepth 8000 in
set_option maxHeartbeats 4000000 in
theorem ms_223_j116 {L : Nat} {xs : Nat → Int32} {d : Nat} (hd : 6 ≤ d) {v2 : Int32} {v3 : Int32} {M : mm_M} {q : (((Int32 × Int32) ⊕ (Int32)) ⊕ Nat) × mm_M} {o : mm_E} (h : mf_223_j116 v2 v3 M = some q) (hA : mm_A (mm_K2 (fun s M o => mp_223_60 L xs (d) s.1 s.2 M o) (fun r M o => mp_223_141 L xs (d) r M o)) q o) : mp_223_116 L xs d v2 v3 M o := by
  unfold mf_223_j116 at h
  obtain ⟨d, rfl⟩ := mm_d1 (n := 5) hd
  intro z1 z4 z5 z6
  show mm_Runs L xs (d + 1) 223 (116, [some (.ref 84), z1, some (.int v2), some (.int v3), z4, z5, z6], [], M) o
  refine mm_Runs.seq (l := [(116, .aload_n 0, 1), (117, .getfield 154, 3)]) (S2 := (120, [some (.ref 84), z1, some (.int v2), some (.int v3), z4, z5, z6], [.int (M.1 84 7)], M)) (by decide +kernel) (hO := mm_own_223) rfl ?_
  refine mm_R_zne (t := 138) rfl rfl rfl (fun hc => ?_) (fun hc => ?_)
  · replace h := mm_ip hc h
    refine mm_Runs.seq (l := [(123, .aload_n 0, 1)]) (S2 := (124, [some (.ref 84), z1, some (.int v2), some (.int v3), z4, z5, z6], [.ref 84], M)) (by decide +kernel) (hO := mm_own_223) rfl ?_
    refine mm_R_call (v := mm_wi) h hA (k2 := 224) (as := [.ref 84]) (r := []) rfl (fun _ => rfl) (fun q hq o ho => ms_224 (by omega) hq ho) (fun r1 M2 h => ?_)
    show mm_Runs L xs (d + 1) 223 (127, [some (.ref 84), z1, some (.int v2), some (.int v3), z4, z5, z6], [.int r1], M2) o
    refine mm_Runs.seq (l := [(127, .istore 6, 2), (129, .iload_n 2, 1), (130, .iconst 1, 1)]) (S2 := (131, [some (.ref 84), z1, some (.int v2), some (.int v3), z4, (mm_no2 z5), some (.int r1)], [.int (1 : Int32), .int v2], M2)) (by decide +kernel) (hO := mm_own_223) rfl ?_
    refine mm_R_call (v := mm_wi) h hA (k2 := 185) (as := [.int v2, .int (1 : Int32)]) (r := []) rfl (fun _ => rfl) (fun q hq o ho => ms_185 (by omega) hq ho) (fun r3 M4 h => ?_)
    show mm_Runs L xs (d + 1) 223 (134, [some (.ref 84), z1, some (.int v2), some (.int v3), z4, (mm_no2 z5), some (.int r1)], [.int r3], M4) o
    refine mm_Runs.seq (l := [(134, .iload 6, 2), (136, .ixor, 1), (137, .istore_n 2, 1), (138, .goto (-78), 3)]) (S2 := (60, [some (.ref 84), (mm_no2 z1), some (.int (r3 ^^^ r1)), some (.int v3), z4, (mm_no2 z5), some (.int r1)], [], M4)) (by decide +kernel) (hO := mm_own_223) rfl ?_
    cases h
    exact (show mp_223_60 L xs (d + 1) (r3 ^^^ r1) v3 M4 o from hA) ((mm_no2 z1)) z4 ((mm_no2 z5)) (some (.int r1))
  · replace h := mm_iq hc h
    refine mm_Runs.seq (l := [(138, .goto (-78), 3)]) (S2 := (60, [some (.ref 84), z1, some (.int v2), some (.int v3), z4, z5, z6], [], M)) (by decide +kernel) (hO := mm_own_223) rfl ?_
    cases h
    exact (show mp_223_60 L xs (d + 1) v2 v3 M o from hA) z1 z4 z5 z6
set_option maxRecDepth 8000 in
set_option maxHeartbeats 4000000 in
theorem ms_223_b60 {L : Nat} {xs : Nat → Int32} {d : Nat} (hd : 6 ≤ d) {v2 : Int32} {v3 : Int32} {M : mm_M} {q : (((Int32 × Int32) ⊕ (Int32)) ⊕ Nat) × mm_M} {o : mm_E} (h : mf_223_b60 v2 v3 M = some q) (hA : mm_A (mm_K2 (fun s M o => mp_223_60 L xs (d) s.1 s.2 M o) (fun r M o => mp_223_141 L xs (d) r M o)) q o) : mp_223_60 L xs d v2 v3 M o := by
  unfold mf_223_b60 at h
  obtain ⟨d, rfl⟩ := mm_d1 (n := 5) hd
  intro z1 z4 z5 z6
  show mm_Runs L xs (d + 1) 223 (60, [some (.ref 84), z1, some (.int v2), some (.int v3), z4, z5, z6], [], M) o
  refine mm_Runs.seq (l := [(60, .iload_n 3, 1)]) (S2 := (61, [some (.ref 84), z1, some (.int v2), some (.int v3), z4, z5, z6], [.int v3], M)) (by decide +kernel) (hO := mm_own_223) rfl ?_
  refine mm_R_zeq (t := 141) rfl rfl rfl (fun hc => ?_) (fun hc => ?_)
  · replace h := mm_ip hc h
    cases h
    exact (show mp_223_141 L xs (d + 1) v2 M o from hA) z1 (some (.int v3)) z4 z5 z6
  · replace h := mm_iq hc h
    refine mm_Runs.seq (l := [(64, .aload_n 0, 1), (65, .getfield 154, 3)]) (S2 := (68, [some (.ref 84), z1, some (.int v2), some (.int v3), z4, z5, z6], [.int (M.1 84 7)], M)) (by decide +kernel) (hO := mm_own_223) rfl ?_
    refine mm_R_zne (t := 141) rfl rfl rfl (fun hc => ?_) (fun hc => ?_)
    · replace h := mm_ip hc h
      refine mm_Runs.seq (l := [(71, .aload_n 0, 1), (72, .bipush 48, 2)]) (S2 := (74, [some (.ref 84), z1, some (.int v2), some (.int v3), z4, z5, z6], [.int (48 : Int32), .ref 84], M)) (by decide +kernel) (hO := mm_own_223) rfl ?_
      refine mm_R_call (v := mm_wl) h hA (k2 := 198) (as := [.ref 84, .int (48 : Int32)]) (r := []) rfl (fun _ => rfl) (fun q hq o ho => ms_198 (by omega) hq ho) (fun r1 M2 h => ?_)
      show mm_Runs L xs (d + 1) 223 (77, [some (.ref 84), z1, some (.int v2), some (.int v3), z4, z5, z6], [.long r1], M2) o
      refine mm_Runs.seq (l := [(77, .lstore 4, 2), (79, .lload 4, 2), (81, .ldc2_w 282, 3)]) (S2 := (84, [some (.ref 84), z1, some (.int v2), some (.int v3), some (.long r1), none, z6], [.long (25779555029136 : Int64), .long r1], M2)) (by decide +kernel) (hO := mm_own_223) rfl ?_
      refine mm_R_lne (t := 93) rfl rfl rfl rfl (fun hc => ?_) (fun hc => ?_)
      · replace h := mm_ip hc h
        refine mm_Runs.seq (l := [(88, .iconst 0, 1), (89, .istore_n 3, 1), (90, .goto 48, 3), (138, .goto (-78), 3)]) (S2 := (60, [some (.ref 84), z1, some (.int v2), some (.int (0 : Int32)), some (.long r1), none, z6], [], M2)) (by decide +kernel) (hO := mm_own_223) rfl ?_
        cases h
        exact (show mp_223_60 L xs (d + 1) v2 (0 : Int32) M2 o from hA) z1 (some (.long r1)) none z6
      · replace h := mm_iq hc h
        refine mm_Runs.seq (l := [(93, .aload_n 0, 1), (94, .getfield 154, 3)]) (S2 := (97, [some (.ref 84), z1, some (.int v2), some (.int v3), some (.long r1), none, z6], [.int (M2.1 84 7)], M2)) (by decide +kernel) (hO := mm_own_223) rfl ?_
        refine mm_R_zne (t := 116) rfl rfl rfl (fun hc => ?_) (fun hc => ?_)
        · replace h := mm_ip hc h
          refine mm_Runs.seq (l := [(100, .lload 4, 2), (102, .ldc2_w 284, 3)]) (S2 := (105, [some (.ref 84), z1, some (.int v2), some (.int v3), some (.long r1), none, z6], [.long (54156738319193 : Int64), .long r1], M2)) (by decide +kernel) (hO := mm_own_223) rfl ?_
          refine mm_R_leq (t := 116) rfl rfl rfl rfl (fun hc => ?_) (fun hc => ?_)
          · replace h := mm_ip hc h
            exact (ms_223_j116 hd h hA : mp_223_116 L xs (d + 1) v2 v3 M2 o) z1 (some (.long r1)) none z6
          · replace h := mm_iq hc h
            refine mm_Runs.seq (l := [(109, .aload_n 0, 1)]) (S2 := (110, [some (.ref 84), z1, some (.int v2), some (.int v3), some (.long r1), none, z6], [.ref 84], M2)) (by decide +kernel) (hO := mm_own_223) rfl ?_
            refine mm_R_call (v := mm_wv) h hA (k2 := 190) (as := [.ref 84]) (r := []) rfl (fun _ => rfl) (fun q hq o ho => ms_190 (by omega) hq ho) (fun _ M3 h => ?_)
            show mm_Runs L xs (d + 1) 223 (113, [some (.ref 84), z1, some (.int v2), some (.int v3), some (.long r1), none, z6], [], M3) o
            refine mm_Runs.seq (l := [(113, .goto 25, 3), (138, .goto (-78), 3)]) (S2 := (60, [some (.ref 84), z1, some (.int v2), some (.int v3), some (.long r1), none, z6], [], M3)) (by decide +kernel) (hO := mm_own_223) rfl ?_
            cases h
            exact (show mp_223_60 L xs (d + 1) v2 v3 M3 o from hA) z1 (some (.long r1)) none z6
        · replace h := mm_iq hc h
          exact (ms_223_j116 hd h hA : mp_223_116 L xs (d + 1) v2 v3 M2 o) z1 (some (.long r1)) none z6
    · replace h := mm_iq hc h
      cases h
      exact (show mp_223_141 L xs (d + 1) v2 M o from hA) z1 (some (.int v3)) z4 z5 z6
theorem ms_223_L60 {L : Nat} {xs : Nat → Int32} {d : Nat} (hd : 6 ≤ d) {v2 : Int32} {v3 : Int32} {β : Type} {K : β → mm_M → mm_E → Prop} {F : (Int32) → mm_M → mm_O β} {M : mm_M} {q : (β ⊕ Nat) × mm_M} {o : mm_E} (h : mm_B (mf_223_L60 (v2, v3) M) F = some q) (hA : mm_A K q o) (hx : ∀ (r : (Int32)) (M2 : mm_M), F r M2 = some q → (fun r M o => mp_223_141 L xs (d) r M o) r M2 o) : mp_223_60 L xs d v2 v3 M o := by
  unfold mf_223_L60 at h
  exact mm_R_loop (step := (fun s M => mf_223_b60 s.1 s.2 M)) (s := (v2, v3)) (M := M) (P := (fun s M o => mp_223_60 L xs (d) s.1 s.2 M o)) (X := (fun r M o => mp_223_141 L xs (d) r M o)) h hA (fun s M q hq hA => ms_223_b60 (v2 := s.1) (v3 := s.2) (M := M) (q := q) hd hq hA) hx
set_option maxRecDepth 8000 in
set_option maxHeartbeats 4000000 in
theorem ms_223_j141 {L : Nat} {xs : Nat → Int32} {d : Nat} (hd : 6 ≤ d) {v2 : Int32} {M : mm_M} {q : (Unit ⊕ Nat) × mm_M} {o : mm_E} (h : mf_223_j141 v2 M = some q) (hA : mm_A (mm_Kr mm_wv) q o) : mp_223_141 L xs d v2 M o := by
  unfold mf_223_j141 at h
  obtain ⟨d, rfl⟩ := mm_d1 (n := 5) hd
  intro z1 z3 z4 z5 z6
  show mm_Runs L xs (d + 1) 223 (141, [some (.ref 84), z1, some (.int v2), z3, z4, z5, z6], [], M) o
  refine mm_Runs.seq (l := [(141, .aload_n 0, 1), (142, .bipush 32, 2)]) (S2 := (144, [some (.ref 84), z1, some (.int v2), z3, z4, z5, z6], [.int (32 : Int32), .ref 84], M)) (by decide +kernel) (hO := mm_own_223) rfl ?_
  refine mm_R_call (v := mm_wl) h hA (k2 := 198) (as := [.ref 84, .int (32 : Int32)]) (r := []) rfl (fun _ => rfl) (fun q hq o ho => ms_198 (by omega) hq ho) (fun r1 M2 h => ?_)
  show mm_Runs L xs (d + 1) 223 (147, [some (.ref 84), z1, some (.int v2), z3, z4, z5, z6], [.long r1], M2) o
  refine mm_Runs.seq (l := [(147, .l2i, 1), (148, .istore 4, 2), (150, .aload_n 0, 1), (151, .getfield 154, 3)]) (S2 := (154, [some (.ref 84), z1, some (.int v2), (mm_no2 z3), some (.int r1.toInt32), z5, z6], [.int (M2.1 84 7)], M2)) (by decide +kernel) (hO := mm_own_223) rfl ?_
  refine mm_R_zne (t := 167) rfl rfl rfl (fun hc => ?_) (fun hc => ?_)
  · replace h := mm_ip hc h
    refine mm_Runs.seq (l := [(157, .iload 4, 2), (159, .iload_n 2, 1)]) (S2 := (160, [some (.ref 84), z1, some (.int v2), (mm_no2 z3), some (.int r1.toInt32), z5, z6], [.int v2, .int r1.toInt32], M2)) (by decide +kernel) (hO := mm_own_223) rfl ?_
    refine mm_R_ieq (t := 167) rfl rfl rfl (fun hc => ?_) (fun hc => ?_)
    · replace h := mm_ip hc h
      cases h
      exact mm_R_retv rfl rfl hA
    · replace h := mm_iq hc h
      refine mm_Runs.seq (l := [(163, .aload_n 0, 1)]) (S2 := (164, [some (.ref 84), z1, some (.int v2), (mm_no2 z3), some (.int r1.toInt32), z5, z6], [.ref 84], M2)) (by decide +kernel) (hO := mm_own_223) rfl ?_
      refine mm_R_call (v := mm_wv) h hA (k2 := 190) (as := [.ref 84]) (r := []) rfl (fun _ => rfl) (fun q hq o ho => ms_190 (by omega) hq ho) (fun _ M3 h => ?_)
      show mm_Runs L xs (d + 1) 223 (167, [some (.ref 84), z1, some (.int v2), (mm_no2 z3), some (.int r1.toInt32), z5, z6], [], M3) o
      cases h
      exact mm_R_retv rfl rfl hA
  · replace h := mm_iq hc h
    cases h
    exact mm_R_retv rfl rfl hA
set_option maxRecDepth 8000 in
set_option maxHeartbeats 4000000 in
theorem ms_223_j42 {L : Nat} {xs : Nat → Int32} {d : Nat} (hd : 6 ≤ d) {M : mm_M} {q : (Unit ⊕ Nat) × mm_M} {o : mm_E} (h : mf_223_j42 M = some q) (hA : mm_A (mm_Kr mm_wv) q o) : mp_223_42 L xs d M o := by
  unfold mf_223_j42 at h
  obtain ⟨d, rfl⟩ := mm_d1 (n := 5) hd
  intro z1 z2 z3 z4 z5 z6
  show mm_Runs L xs (d + 1) 223 (42, [some (.ref 84), z1, z2, z3, z4, z5, z6], [], M) o
  refine mm_Runs.seq (l := [(42, .aload_n 0, 1)]) (S2 := (43, [some (.ref 84), z1, z2, z3, z4, z5, z6], [.ref 84], M)) (by decide +kernel) (hO := mm_own_223) rfl ?_
  refine mm_R_call (v := mm_wv) h hA (k2 := 190) (as := [.ref 84]) (r := []) rfl (fun _ => rfl) (fun q hq o ho => ms_190 (by omega) hq ho) (fun _ M1 h => ?_)
  show mm_Runs L xs (d + 1) 223 (46, [some (.ref 84), z1, z2, z3, z4, z5, z6], [], M1) o
  refine mm_Runs.seq (l := [(46, .aload_n 0, 1), (47, .iconst 1, 1), (48, .putfield 178, 3), (51, .aload_n 0, 1), (52, .iconst 0, 1), (53, .putfield 172, 3), (56, .iconst 0, 1), (57, .istore_n 2, 1), (58, .iconst 1, 1), (59, .istore_n 3, 1)]) (S2 := (60, [some (.ref 84), (mm_no2 z1), some (.int (0 : Int32)), some (.int (1 : Int32)), z4, z5, z6], [], (mm_pi (mm_pi M1 84 13 (1 : Int32)) 84 15 (0 : Int32)))) (by decide +kernel) (hO := mm_own_223) rfl ?_
  have hp : mp_223_60 L xs (d + 1) (0 : Int32) (1 : Int32) (mm_pi (mm_pi M1 84 13 (1 : Int32)) 84 15 (0 : Int32)) o := by
    refine ms_223_L60 hd h hA (fun r3 M2 h => ?_)
    intro y4 y5 y6 y7 y8
    show mm_Runs L xs (d + 1) 223 (141, [some (.ref 84), y4, some (.int r3), y5, y6, y7, y8], [], M2) o
    exact (ms_223_j141 hd h hA : mp_223_141 L xs (d + 1) r3 M2 o) y4 y5 y6 y7 y8
  exact hp ((mm_no2 z1)) z4 z5 z6
set_option maxRecDepth 8000 in
set_option maxHeartbeats 4000000 in
theorem ms_223 {L : Nat} {xs : Nat → Int32} {d : Nat} (hd : 6 ≤ d) {M : mm_M} {q : (Unit ⊕ Nat) × mm_M} {o : mm_E} (h : mf_223 M = some q) (hA : mm_A (mm_Kr mm_wv) q o) : mm_Runs L xs d 223 (0, mm_ent (mm_ml 223) [.ref 84], [], M) o := by
  unfold mf_223 at h
  obtain ⟨d, rfl⟩ := mm_d1 (n := 5) hd
  show mm_Runs L xs (d + 1) 223 (0, [some (.ref 84), none, none, none, none, none, none], [], M) o
  refine mm_Runs.seq (l := [(0, .aload_n 0, 1), (1, .bipush 66, 2)]) (S2 := (3, [some (.ref 84), none, none, none, none, none, none], [.int (66 : Int32), .ref 84], M)) (by decide +kernel) (hO := mm_own_223) rfl ?_
  refine mm_R_call (v := mm_wv) h hA (k2 := 192) (as := [.ref 84, .int (66 : Int32)]) (r := []) rfl (fun _ => rfl) (fun q hq o ho => ms_192 (by omega) hq ho) (fun _ M1 h => ?_)
  show mm_Runs L xs (d + 1) 223 (6, [some (.ref 84), none, none, none, none, none, none], [], M1) o
  refine mm_Runs.seq (l := [(6, .aload_n 0, 1), (7, .bipush 90, 2)]) (S2 := (9, [some (.ref 84), none, none, none, none, none, none], [.int (90 : Int32), .ref 84], M1)) (by decide +kernel) (hO := mm_own_223) rfl ?_
  refine mm_R_call (v := mm_wv) h hA (k2 := 192) (as := [.ref 84, .int (90 : Int32)]) (r := []) rfl (fun _ => rfl) (fun q hq o ho => ms_192 (by omega) hq ho) (fun _ M2 h => ?_)
  show mm_Runs L xs (d + 1) 223 (12, [some (.ref 84), none, none, none, none, none, none], [], M2) o
  refine mm_Runs.seq (l := [(12, .aload_n 0, 1), (13, .bipush 104, 2)]) (S2 := (15, [some (.ref 84), none, none, none, none, none, none], [.int (104 : Int32), .ref 84], M2)) (by decide +kernel) (hO := mm_own_223) rfl ?_
  refine mm_R_call (v := mm_wv) h hA (k2 := 192) (as := [.ref 84, .int (104 : Int32)]) (r := []) rfl (fun _ => rfl) (fun q hq o ho => ms_192 (by omega) hq ho) (fun _ M3 h => ?_)
  show mm_Runs L xs (d + 1) 223 (18, [some (.ref 84), none, none, none, none, none, none], [], M3) o
  refine mm_Runs.seq (l := [(18, .aload_n 0, 1)]) (S2 := (19, [some (.ref 84), none, none, none, none, none, none], [.ref 84], M3)) (by decide +kernel) (hO := mm_own_223) rfl ?_
  refine mm_R_call (v := mm_wi) h hA (k2 := 191) (as := [.ref 84]) (r := []) rfl (fun _ => rfl) (fun q hq o ho => ms_191 (by omega) hq ho) (fun r4 M5 h => ?_)
  show mm_Runs L xs (d + 1) 223 (22, [some (.ref 84), none, none, none, none, none, none], [.int r4], M5) o
  refine mm_Runs.seq (l := [(22, .istore_n 1, 1), (23, .aload_n 0, 1), (24, .getfield 154, 3)]) (S2 := (27, [some (.ref 84), some (.int r4), none, none, none, none, none], [.int (M5.1 84 7)], M5)) (by decide +kernel) (hO := mm_own_223) rfl ?_
  refine mm_R_zne (t := 46) rfl rfl rfl (fun hc => ?_) (fun hc => ?_)
  · replace h := mm_ip hc h
    refine mm_Runs.seq (l := [(30, .iload_n 1, 1), (31, .bipush 49, 2)]) (S2 := (33, [some (.ref 84), some (.int r4), none, none, none, none, none], [.int (49 : Int32), .int r4], M5)) (by decide +kernel) (hO := mm_own_223) rfl ?_
    refine mm_R_ilt (t := 42) rfl rfl rfl (fun hc => ?_) (fun hc => ?_)
    · replace h := mm_ip hc h
      exact (ms_223_j42 hd h hA : mp_223_42 L xs (d + 1) M5 o) (some (.int r4)) none none none none none
    · replace h := mm_iq hc h
      refine mm_Runs.seq (l := [(36, .iload_n 1, 1), (37, .bipush 57, 2)]) (S2 := (39, [some (.ref 84), some (.int r4), none, none, none, none, none], [.int (57 : Int32), .int r4], M5)) (by decide +kernel) (hO := mm_own_223) rfl ?_
      refine mm_R_ile (t := 46) rfl rfl rfl (fun hc => ?_) (fun hc => ?_)
      · replace h := mm_ip hc h
        exact (ms_223_j42 hd h hA : mp_223_42 L xs (d + 1) M5 o) (some (.int r4)) none none none none none
      · replace h := mm_iq hc h
        refine mm_Runs.seq (l := [(46, .aload_n 0, 1), (47, .iconst 1, 1), (48, .putfield 178, 3), (51, .aload_n 0, 1), (52, .iconst 0, 1), (53, .putfield 172, 3), (56, .iconst 0, 1), (57, .istore_n 2, 1), (58, .iconst 1, 1), (59, .istore_n 3, 1)]) (S2 := (60, [some (.ref 84), some (.int r4), some (.int (0 : Int32)), some (.int (1 : Int32)), none, none, none], [], (mm_pi (mm_pi M5 84 13 (1 : Int32)) 84 15 (0 : Int32)))) (by decide +kernel) (hO := mm_own_223) rfl ?_
        have hp : mp_223_60 L xs (d + 1) (0 : Int32) (1 : Int32) (mm_pi (mm_pi M5 84 13 (1 : Int32)) 84 15 (0 : Int32)) o := by
          refine ms_223_L60 hd h hA (fun r7 M6 h => ?_)
          intro y8 y9 y10 y11 y12
          show mm_Runs L xs (d + 1) 223 (141, [some (.ref 84), y8, some (.int r7), y9, y10, y11, y12], [], M6) o
          exact (ms_223_j141 hd h hA : mp_223_141 L xs (d + 1) r7 M6 o) y8 y9 y10 y11 y12
        exact hp (some (.int r4)) none none none
  · replace h := mm_iq hc h
    refine mm_Runs.seq (l := [(46, .aload_n 0, 1), (47, .iconst 1, 1), (48, .putfield 178, 3), (51, .aload_n 0, 1), (52, .iconst 0, 1), (53, .putfield 172, 3), (56, .iconst 0, 1), (57, .istore_n 2, 1), (58, .iconst 1, 1), (59, .istore_n 3, 1)]) (S2 := (60, [some (.ref 84), some (.int r4), some (.int (0 : Int32)), some (.int (1 : Int32)), none, none, none], [], (mm_pi (mm_pi M5 84 13 (1 : Int32)) 84 15 (0 : Int32)))) (by decide +kernel) (hO := mm_own_223) rfl ?_
    have hp : mp_223_60 L xs (d + 1) (0 : Int32) (1 : Int32) (mm_pi (mm_pi M5 84 13 (1 : Int32)) 84 15 (0 : Int32)) o := by
      refine ms_223_L60 hd h hA (fun r14 M13 h => ?_)
      intro y15 y16 y17 y18 y19
      show mm_Runs L xs (d + 1) 223 (141, [some (.ref 84), y15, some (.int r14), y16, y17, y18, y19], [], M13) o
      exact (ms_223_j141 hd h hA : mp_223_141 L xs (d + 1) r14 M13 o) y15 y16 y17 y18 y19
    exact hp (some (.int r4)) none none none
-- 232: PlainPacksModel.grow()V (depth 2)
theorem mm_own_232 : mm_own 232 = 12 := rfl
set_option maxRecDepth 8000 in
set_option maxHeartbeats 4000000 in
theorem ms_232 {L : Nat} {xs : Nat → Int32} {d : Nat} (hd : 2 ≤ d) {M : mm_M} {q : (Unit ⊕ Nat) × mm_M} {o : mm_E} (h : mf_232 M = some q) (hA : mm_A (mm_Kr mm_wv) q o) : mm_Runs L xs d 232 (0, mm_ent (mm_ml 232) [.ref 84], [], M) o := by
  unfold mf_232 at h
  obtain ⟨d, rfl⟩ := mm_d1 (n := 1) hd
  show mm_Runs L xs (d + 1) 232 (0, [some (.ref 84)], [], M) o
  refine mm_Runs.seq (l := [(0, .aload_n 0, 1), (1, .getfield 319, 3), (4, .ldc2_w 323, 3)]) (S2 := (7, [some (.ref 84)], [.long (16777216 : Int64), .long (M.2.1 84 33)], M)) (by decide +kernel) (hO := mm_own_232) rfl ?_
  refine mm_R_lge (t := 43) rfl rfl rfl rfl (fun hc => ?_) (fun hc => ?_)
  · replace h := mm_ip hc h
    refine mm_Runs.seq (l := [(11, .aload_n 0, 1), (12, .dup, 1), (13, .getfield 319, 3), (16, .bipush 8, 2), (18, .lshl, 1), (19, .putfield 319, 3), (22, .aload_n 0, 1), (23, .aload_n 0, 1), (24, .getfield 325, 3), (27, .bipush 8, 2), (29, .lshl, 1), (30, .aload_n 0, 1)]) (S2 := (31, [some (.ref 84)], [.ref 84, .long (mm_lshl (M.2.1 84 34) (8 : Int32)), .ref 84], (mm_pl M 84 33 (mm_lshl (M.2.1 84 33) (8 : Int32))))) (by decide +kernel) (hO := mm_own_232) rfl ?_
    refine mm_R_call (v := mm_wi) h hA (k2 := 191) (as := [.ref 84]) (r := [.long (mm_lshl (M.2.1 84 34) (8 : Int32)), .ref 84]) rfl (fun _ => rfl) (fun q hq o ho => ms_191 (by omega) hq ho) (fun r1 M2 h => ?_)
    show mm_Runs L xs (d + 1) 232 (34, [some (.ref 84)], [.int r1, .long (mm_lshl (M.2.1 84 34) (8 : Int32)), .ref 84], M2) o
    refine mm_Runs.seq (l := [(34, .i2l, 1), (35, .lor, 1), (36, .ldc2_w 272, 3), (39, .land, 1), (40, .putfield 325, 3)]) (S2 := (43, [some (.ref 84)], [], (mm_pl M2 84 34 (((mm_lshl (M.2.1 84 34) (8 : Int32)) ||| r1.toInt64) &&& (4294967295 : Int64))))) (by decide +kernel) (hO := mm_own_232) rfl ?_
    cases h
    exact mm_R_retv rfl rfl hA
  · replace h := mm_iq hc h
    cases h
    exact mm_R_retv rfl rfl hA
-- 233: PlainPacksModel.chance(I)I (depth 3)
theorem mm_own_233 : mm_own 233 = 12 := rfl
def mp_233_40 (L : Nat) (xs : Nat → Int32) (d : Nat) (v1 : Int32) (v2 : Int64) (s0 : Int32) (M : mm_M) (o : mm_E) : Prop := ∀ z3 z4 : Option Value, mm_Runs L xs d 233 (40, [some (.ref 84), some (.int v1), some (.long v2), z3, z4], [.int s0], M) o
def mp_233_115 (L : Nat) (xs : Nat → Int32) (d : Nat) (v4 : Int32) (M : mm_M) (o : mm_E) : Prop := ∀ z1 z2 z3 : Option Value, mm_Runs L xs d 233 (115, [some (.ref 84), z1, z2, z3, some (.int v4)], [], M) o
set_option maxRecDepth 8000 in
set_option maxHeartbeats 4000000 in
theorem ms_233_j115 {L : Nat} {xs : Nat → Int32} {d : Nat} (hd : 3 ≤ d) {v4 : Int32} {M : mm_M} {q : (Int32 ⊕ Nat) × mm_M} {o : mm_E} (h : mf_233_j115 v4 M = some q) (hA : mm_A (mm_Kr mm_wi) q o) : mp_233_115 L xs d v4 M o := by
  unfold mf_233_j115 at h
  obtain ⟨d, rfl⟩ := mm_d1 (n := 2) hd
  intro z1 z2 z3
  show mm_Runs L xs (d + 1) 233 (115, [some (.ref 84), z1, z2, z3, some (.int v4)], [], M) o
  refine mm_Runs.seq (l := [(115, .aload_n 0, 1)]) (S2 := (116, [some (.ref 84), z1, z2, z3, some (.int v4)], [.ref 84], M)) (by decide +kernel) (hO := mm_own_233) rfl ?_
  refine mm_R_call (v := mm_wv) h hA (k2 := 232) (as := [.ref 84]) (r := []) rfl (fun _ => rfl) (fun q hq o ho => ms_232 (by omega) hq ho) (fun _ M1 h => ?_)
  show mm_Runs L xs (d + 1) 233 (119, [some (.ref 84), z1, z2, z3, some (.int v4)], [], M1) o
  refine mm_Runs.seq (l := [(119, .iload 4, 2)]) (S2 := (121, [some (.ref 84), z1, z2, z3, some (.int v4)], [.int v4], M1)) (by decide +kernel) (hO := mm_own_233) rfl ?_
  cases h
  exact mm_R_reti rfl rfl hA
set_option maxRecDepth 8000 in
set_option maxHeartbeats 4000000 in
theorem ms_233_j40 {L : Nat} {xs : Nat → Int32} {d : Nat} (hd : 3 ≤ d) {v1 : Int32} {v2 : Int64} {s0 : Int32} {M : mm_M} {q : (Int32 ⊕ Nat) × mm_M} {o : mm_E} (h : mf_233_j40 v1 v2 s0 M = some q) (hA : mm_A (mm_Kr mm_wi) q o) : mp_233_40 L xs d v1 v2 s0 M o := by
  unfold mf_233_j40 at h
  obtain ⟨d, rfl⟩ := mm_d1 (n := 2) hd
  intro z3 z4
  show mm_Runs L xs (d + 1) 233 (40, [some (.ref 84), some (.int v1), some (.long v2), z3, z4], [.int s0], M) o
  refine mm_Runs.seq (l := [(40, .istore 4, 2), (42, .iload 4, 2)]) (S2 := (44, [some (.ref 84), some (.int v1), some (.long v2), (mm_no2 z3), some (.int s0)], [.int s0], M)) (by decide +kernel) (hO := mm_own_233) rfl ?_
  refine mm_R_zne (t := 77) rfl rfl rfl (fun hc => ?_) (fun hc => ?_)
  · replace h := mm_ip hc h
    refine mm_Runs.seq (l := [(47, .aload_n 0, 1), (48, .lload_n 2, 1), (49, .putfield 319, 3), (52, .aload_n 0, 1), (53, .getfield 50, 3), (56, .iload_n 1, 1), (57, .dup2, 1)]) (S2 := (58, [some (.ref 84), some (.int v1), some (.long v2), (mm_no2 z3), some (.int s0)], [.int v1, .ref 98, .int v1, .ref 98], (mm_pl M 84 33 v2))) (by decide +kernel) (hO := mm_own_233) rfl ?_
    obtain ⟨hb, h⟩ := mm_gd h
    refine mm_R_iald rfl rfl hb ?_
    refine mm_Runs.seq (l := [(59, .sipush 2048, 3), (62, .aload_n 0, 1), (63, .getfield 50, 3), (66, .iload_n 1, 1)]) (S2 := (67, [some (.ref 84), some (.int v1), some (.long v2), (mm_no2 z3), some (.int s0)], [.int v1, .ref 98, .int (2048 : Int32), .int (M.1 98 v1.toNatClampNeg), .int v1, .ref 98], (mm_pl M 84 33 v2))) (by decide +kernel) (hO := mm_own_233) rfl ?_
    obtain ⟨hb, h⟩ := mm_gd h
    refine mm_R_iald rfl rfl hb ?_
    refine mm_Runs.seq (l := [(68, .isub, 1), (69, .bipush 32, 2), (71, .idiv, 1), (72, .iadd, 1)]) (S2 := (73, [some (.ref 84), some (.int v1), some (.long v2), (mm_no2 z3), some (.int s0)], [.int ((M.1 98 v1.toNatClampNeg) + (((2048 : Int32) - (M.1 98 v1.toNatClampNeg)) / (32 : Int32))), .int v1, .ref 98], (mm_pl M 84 33 v2))) (by decide +kernel) (hO := mm_own_233) rfl ?_
    obtain ⟨hb, h⟩ := mm_gd h
    refine mm_R_iast rfl rfl hb ?_
    refine mm_Runs.seq (l := [(74, .goto 41, 3)]) (S2 := (115, [some (.ref 84), some (.int v1), some (.long v2), (mm_no2 z3), some (.int s0)], [], (mm_pi (mm_pl M 84 33 v2) 98 v1.toNatClampNeg ((M.1 98 v1.toNatClampNeg) + (((2048 : Int32) - (M.1 98 v1.toNatClampNeg)) / (32 : Int32)))))) (by decide +kernel) (hO := mm_own_233) rfl ?_
    exact (ms_233_j115 hd h hA : mp_233_115 L xs (d + 1) s0 (mm_pi (mm_pl M 84 33 v2) 98 v1.toNatClampNeg ((M.1 98 v1.toNatClampNeg) + (((2048 : Int32) - (M.1 98 v1.toNatClampNeg)) / (32 : Int32)))) o) (some (.int v1)) (some (.long v2)) ((mm_no2 z3))
  · replace h := mm_iq hc h
    refine mm_Runs.seq (l := [(77, .aload_n 0, 1), (78, .dup, 1), (79, .getfield 325, 3), (82, .lload_n 2, 1), (83, .lsub, 1), (84, .putfield 325, 3), (87, .aload_n 0, 1), (88, .dup, 1), (89, .getfield 319, 3), (92, .lload_n 2, 1), (93, .lsub, 1), (94, .putfield 319, 3), (97, .aload_n 0, 1), (98, .getfield 50, 3), (101, .iload_n 1, 1), (102, .dup2, 1)]) (S2 := (103, [some (.ref 84), some (.int v1), some (.long v2), (mm_no2 z3), some (.int s0)], [.int v1, .ref 98, .int v1, .ref 98], (mm_pl (mm_pl M 84 34 ((M.2.1 84 34) - v2)) 84 33 ((M.2.1 84 33) - v2)))) (by decide +kernel) (hO := mm_own_233) rfl ?_
    obtain ⟨hb, h⟩ := mm_gd h
    refine mm_R_iald rfl rfl hb ?_
    refine mm_Runs.seq (l := [(104, .aload_n 0, 1), (105, .getfield 50, 3), (108, .iload_n 1, 1)]) (S2 := (109, [some (.ref 84), some (.int v1), some (.long v2), (mm_no2 z3), some (.int s0)], [.int v1, .ref 98, .int (M.1 98 v1.toNatClampNeg), .int v1, .ref 98], (mm_pl (mm_pl M 84 34 ((M.2.1 84 34) - v2)) 84 33 ((M.2.1 84 33) - v2)))) (by decide +kernel) (hO := mm_own_233) rfl ?_
    obtain ⟨hb, h⟩ := mm_gd h
    refine mm_R_iald rfl rfl hb ?_
    refine mm_Runs.seq (l := [(110, .bipush 32, 2), (112, .idiv, 1), (113, .isub, 1)]) (S2 := (114, [some (.ref 84), some (.int v1), some (.long v2), (mm_no2 z3), some (.int s0)], [.int ((M.1 98 v1.toNatClampNeg) - ((M.1 98 v1.toNatClampNeg) / (32 : Int32))), .int v1, .ref 98], (mm_pl (mm_pl M 84 34 ((M.2.1 84 34) - v2)) 84 33 ((M.2.1 84 33) - v2)))) (by decide +kernel) (hO := mm_own_233) rfl ?_
    obtain ⟨hb, h⟩ := mm_gd h
    refine mm_R_iast rfl rfl hb ?_
    exact (ms_233_j115 hd h hA : mp_233_115 L xs (d + 1) s0 (mm_pi (mm_pl (mm_pl M 84 34 ((M.2.1 84 34) - v2)) 84 33 ((M.2.1 84 33) - v2)) 98 v1.toNatClampNeg ((M.1 98 v1.toNatClampNeg) - ((M.1 98 v1.toNatClampNeg) / (32 : Int32)))) o) (some (.int v1)) (some (.long v2)) ((mm_no2 z3))
set_option maxRecDepth 8000 in
set_option maxHeartbeats 4000000 in
theorem ms_233 {L : Nat} {xs : Nat → Int32} {d : Nat} (hd : 3 ≤ d) {v1 : Int32} {M : mm_M} {q : (Int32 ⊕ Nat) × mm_M} {o : mm_E} (h : mf_233 v1 M = some q) (hA : mm_A (mm_Kr mm_wi) q o) : mm_Runs L xs d 233 (0, mm_ent (mm_ml 233) [.ref 84, .int v1], [], M) o := by
  unfold mf_233 at h
  obtain ⟨d, rfl⟩ := mm_d1 (n := 2) hd
  show mm_Runs L xs (d + 1) 233 (0, [some (.ref 84), some (.int v1), none, none, none], [], M) o
  refine mm_Runs.seq (l := [(0, .aload_n 0, 1), (1, .getfield 154, 3)]) (S2 := (4, [some (.ref 84), some (.int v1), none, none, none], [.int (M.1 84 7)], M)) (by decide +kernel) (hO := mm_own_233) rfl ?_
  refine mm_R_zeq (t := 9) rfl rfl rfl (fun hc => ?_) (fun hc => ?_)
  · replace h := mm_ip hc h
    refine mm_Runs.seq (l := [(9, .aload_n 0, 1), (10, .getfield 319, 3), (13, .ldc2_w 328, 3), (16, .ldiv, 1), (17, .aload_n 0, 1), (18, .getfield 50, 3), (21, .iload_n 1, 1)]) (S2 := (22, [some (.ref 84), some (.int v1), none, none, none], [.int v1, .ref 98, .long ((M.2.1 84 33) / (2048 : Int64))], M)) (by decide +kernel) (hO := mm_own_233) rfl ?_
    obtain ⟨hb, h⟩ := mm_gd h
    refine mm_R_iald rfl rfl hb ?_
    refine mm_Runs.seq (l := [(23, .i2l, 1), (24, .lmul, 1), (25, .lstore_n 2, 1), (26, .aload_n 0, 1), (27, .getfield 325, 3), (30, .lload_n 2, 1)]) (S2 := (31, [some (.ref 84), some (.int v1), some (.long (((M.2.1 84 33) / (2048 : Int64)) * (M.1 98 v1.toNatClampNeg).toInt64)), none, none], [.long (((M.2.1 84 33) / (2048 : Int64)) * (M.1 98 v1.toNatClampNeg).toInt64), .long (M.2.1 84 34)], M)) (by decide +kernel) (hO := mm_own_233) rfl ?_
    refine mm_R_lge (t := 39) rfl rfl rfl rfl (fun hc => ?_) (fun hc => ?_)
    · replace h := mm_ip hc h
      refine mm_Runs.seq (l := [(35, .iconst 0, 1), (36, .goto 4, 3)]) (S2 := (40, [some (.ref 84), some (.int v1), some (.long (((M.2.1 84 33) / (2048 : Int64)) * (M.1 98 v1.toNatClampNeg).toInt64)), none, none], [.int (0 : Int32)], M)) (by decide +kernel) (hO := mm_own_233) rfl ?_
      exact (ms_233_j40 hd h hA : mp_233_40 L xs (d + 1) v1 (((M.2.1 84 33) / (2048 : Int64)) * (M.1 98 v1.toNatClampNeg).toInt64) (0 : Int32) M o) none none
    · replace h := mm_iq hc h
      refine mm_Runs.seq (l := [(39, .iconst 1, 1)]) (S2 := (40, [some (.ref 84), some (.int v1), some (.long (((M.2.1 84 33) / (2048 : Int64)) * (M.1 98 v1.toNatClampNeg).toInt64)), none, none], [.int (1 : Int32)], M)) (by decide +kernel) (hO := mm_own_233) rfl ?_
      exact (ms_233_j40 hd h hA : mp_233_40 L xs (d + 1) v1 (((M.2.1 84 33) / (2048 : Int64)) * (M.1 98 v1.toNatClampNeg).toInt64) (1 : Int32) M o) none none
  · replace h := mm_iq hc h
    refine mm_Runs.seq (l := [(7, .iconst 0, 1)]) (S2 := (8, [some (.ref 84), some (.int v1), none, none, none], [.int (0 : Int32)], M)) (by decide +kernel) (hO := mm_own_233) rfl ?_
    cases h
    exact mm_R_reti rfl rfl hA
