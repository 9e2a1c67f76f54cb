/-! MEANINGS ARE SOUND 17 -/
-- 215: PlainPacksModel.words(IZ)V (depth 4)
theorem mm_own_215 : mm_own 215 = 12 := rfl
def mp_215_23 (L : Nat) (xs : Nat → Int32) (d : Nat) (v1 : Int32) (v2 : Int32) (v3 : Int32) (v4 : Int32) (v5 : Int32) (v6 : Int32) (v7 : Int32) (v8 : Int32) (M : mm_M) (o : mm_E) : Prop := ∀ z9 z10 : Option Value, mm_Runs L xs d 215 (23, [some (.ref 84), some (.int v1), some (.int v2), some (.int v3), some (.int v4), some (.int v5), some (.int v6), some (.int v7), some (.int v8), z9, z10], [], M) o
def mp_215_263 (L : Nat) (xs : Nat → Int32) (d : Nat) (M : mm_M) (o : mm_E) : Prop := ∀ z0 z1 z2 z3 z4 z5 z6 z7 z8 z9 z10 : Option Value, mm_Runs L xs d 215 (263, [z0, z1, z2, z3, z4, z5, z6, z7, z8, z9, z10], [], M) o
def mp_215_123 (L : Nat) (xs : Nat → Int32) (d : Nat) (v1 : Int32) (v2 : Int32) (v3 : Int32) (v4 : Int32) (v5 : Int32) (v8 : Int32) (v9 : Int32) (M : mm_M) (o : mm_E) : Prop := ∀ z6 z7 z10 : Option Value, mm_Runs L xs d 215 (123, [some (.ref 84), some (.int v1), some (.int v2), some (.int v3), some (.int v4), some (.int v5), z6, z7, some (.int v8), some (.int v9), z10], [], M) o
def mp_215_134 (L : Nat) (xs : Nat → Int32) (d : Nat) (v1 : Int32) (v2 : Int32) (v3 : Int32) (v4 : Int32) (v5 : Int32) (v8 : Int32) (v9 : Int32) (M : mm_M) (o : mm_E) : Prop := ∀ z6 z7 z10 : Option Value, mm_Runs L xs d 215 (134, [some (.ref 84), some (.int v1), some (.int v2), some (.int v3), some (.int v4), some (.int v5), z6, z7, some (.int v8), some (.int v9), z10], [], M) o
def mp_215_173 (L : Nat) (xs : Nat → Int32) (d : Nat) (v1 : Int32) (v2 : Int32) (v3 : Int32) (v4 : Int32) (v5 : Int32) (v6 : Int32) (v7 : Int32) (v8 : Int32) (v9 : Int32) (v10 : Int32) (M : mm_M) (o : mm_E) : Prop := mm_Runs L xs d 215 (173, [some (.ref 84), some (.int v1), some (.int v2), some (.int v3), some (.int v4), some (.int v5), some (.int v6), some (.int v7), some (.int v8), some (.int v9), some (.int v10)], [], M) o
def mp_215_224 (L : Nat) (xs : Nat → Int32) (d : Nat) (v1 : Int32) (v2 : Int32) (v3 : Int32) (v4 : Int32) (v5 : Int32) (v6 : Int32) (v7 : Int32) (v8 : Int32) (M : mm_M) (o : mm_E) : Prop := ∀ z9 z10 : Option Value, mm_Runs L xs d 215 (224, [some (.ref 84), some (.int v1), some (.int v2), some (.int v3), some (.int v4), some (.int v5), some (.int v6), some (.int v7), some (.int v8), z9, z10], [], M) o
def mp_215_214 (L : Nat) (xs : Nat → Int32) (d : Nat) (v1 : Int32) (v2 : Int32) (v3 : Int32) (v4 : Int32) (v5 : Int32) (v6 : Int32) (v7 : Int32) (v8 : Int32) (v9 : Int32) (v10 : Int32) (s1 : Int32) (M : mm_M) (o : mm_E) : Prop := mm_Runs L xs d 215 (214, [some (.ref 84), some (.int v1), some (.int v2), some (.int v3), some (.int v4), some (.int v5), some (.int v6), some (.int v7), some (.int v8), some (.int v9), some (.int v10)], [.int s1, .ref 84], M) o
set_option maxRecDepth 8000 in
set_option maxHeartbeats 4000000 in
theorem ms_215_j214 {L : Nat} {xs : Nat → Int32} {d : Nat} (hd : 4 ≤ d) {v1 : Int32} {v2 : Int32} {v3 : Int32} {v4 : Int32} {v5 : Int32} {v6 : Int32} {v7 : Int32} {v8 : Int32} {v9 : Int32} {v10 : Int32} {s1 : Int32} {M : mm_M} {q : (((Int32) ⊕ (Unit)) ⊕ Nat) × mm_M} {o : mm_E} (h : mf_215_j214 v1 v2 v3 v4 v5 v6 v7 v8 v9 v10 s1 M = some q) (hA : mm_A (mm_K2 (fun s M o => mp_215_173 L xs (d) v1 v2 v3 v4 v5 v6 v7 v8 v9 s M o) (fun r M o => mp_215_224 L xs (d) v1 v2 v3 v4 v5 v6 v7 v8 M o)) q o) : mp_215_214 L xs d v1 v2 v3 v4 v5 v6 v7 v8 v9 v10 s1 M o := by
  unfold mf_215_j214 at h
  obtain ⟨d, rfl⟩ := mm_d1 (n := 3) hd
  show mm_Runs L xs (d + 1) 215 (214, [some (.ref 84), some (.int v1), some (.int v2), some (.int v3), some (.int v4), some (.int v5), some (.int v6), some (.int v7), some (.int v8), some (.int v9), some (.int v10)], [.int s1, .ref 84], M) o
  refine mm_R_call (v := mm_wi) h hA (k2 := 194) (as := [.ref 84, .int s1]) (r := []) rfl (fun _ => rfl) (fun q hq o ho => ms_194 (by omega) hq ho) (fun r1 M2 h => ?_)
  show mm_Runs L xs (d + 1) 215 (217, [some (.ref 84), some (.int v1), some (.int v2), some (.int v3), some (.int v4), some (.int v5), some (.int v6), some (.int v7), some (.int v8), some (.int v9), some (.int v10)], [.int r1], M2) o
  refine mm_Runs.seq (l := [(217, .pop, 1), (218, .iinc 10 1, 3), (221, .goto (-48), 3)]) (S2 := (173, [some (.ref 84), some (.int v1), some (.int v2), some (.int v3), some (.int v4), some (.int v5), some (.int v6), some (.int v7), some (.int v8), some (.int v9), some (.int (v10 + (1 : Int32)))], [], M2)) (by decide +kernel) (hO := mm_own_215) rfl ?_
  cases h
  exact (show mp_215_173 L xs (d + 1) v1 v2 v3 v4 v5 v6 v7 v8 v9 (v10 + (1 : Int32)) M2 o from hA)
set_option maxRecDepth 8000 in
set_option maxHeartbeats 4000000 in
theorem ms_215_b173 {L : Nat} {xs : Nat → Int32} {d : Nat} (hd : 4 ≤ d) {v1 : Int32} {v2 : Int32} {v3 : Int32} {v4 : Int32} {v5 : Int32} {v6 : Int32} {v7 : Int32} {v8 : Int32} {v9 : Int32} {v10 : Int32} {M : mm_M} {q : (((Int32) ⊕ (Unit)) ⊕ Nat) × mm_M} {o : mm_E} (h : mf_215_b173 v1 v2 v3 v4 v5 v6 v7 v8 v9 v10 M = some q) (hA : mm_A (mm_K2 (fun s M o => mp_215_173 L xs (d) v1 v2 v3 v4 v5 v6 v7 v8 v9 s M o) (fun r M o => mp_215_224 L xs (d) v1 v2 v3 v4 v5 v6 v7 v8 M o)) q o) : mp_215_173 L xs d v1 v2 v3 v4 v5 v6 v7 v8 v9 v10 M o := by
  unfold mf_215_b173 at h
  obtain ⟨d, rfl⟩ := mm_d1 (n := 3) hd
  show mm_Runs L xs (d + 1) 215 (173, [some (.ref 84), some (.int v1), some (.int v2), some (.int v3), some (.int v4), some (.int v5), some (.int v6), some (.int v7), some (.int v8), some (.int v9), some (.int v10)], [], M) o
  refine mm_Runs.seq (l := [(173, .iload 10, 2), (175, .iload 7, 2)]) (S2 := (177, [some (.ref 84), some (.int v1), some (.int v2), some (.int v3), some (.int v4), some (.int v5), some (.int v6), some (.int v7), some (.int v8), some (.int v9), some (.int v10)], [.int v7, .int v10], M)) (by decide +kernel) (hO := mm_own_215) rfl ?_
  refine mm_R_ige (t := 224) rfl rfl rfl (fun hc => ?_) (fun hc => ?_)
  · replace h := mm_ip hc h
    refine mm_Runs.seq (l := [(180, .aload_n 0, 1), (181, .getfield 154, 3)]) (S2 := (184, [some (.ref 84), some (.int v1), some (.int v2), some (.int v3), some (.int v4), some (.int v5), some (.int v6), some (.int v7), some (.int v8), some (.int v9), some (.int v10)], [.int (M.1 84 7)], M)) (by decide +kernel) (hO := mm_own_215) rfl ?_
    refine mm_R_zne (t := 224) rfl rfl rfl (fun hc => ?_) (fun hc => ?_)
    · replace h := mm_ip hc h
      refine mm_Runs.seq (l := [(187, .aload_n 0, 1), (188, .iload 9, 2), (190, .iload_n 3, 1)]) (S2 := (191, [some (.ref 84), some (.int v1), some (.int v2), some (.int v3), some (.int v4), some (.int v5), some (.int v6), some (.int v7), some (.int v8), some (.int v9), some (.int v10)], [.int v3, .int v9, .ref 84], M)) (by decide +kernel) (hO := mm_own_215) rfl ?_
      refine mm_R_ige (t := 199) rfl rfl rfl (fun hc => ?_) (fun hc => ?_)
      · replace h := mm_ip hc h
        refine mm_Runs.seq (l := [(194, .iload 9, 2), (196, .goto 18, 3)]) (S2 := (214, [some (.ref 84), some (.int v1), some (.int v2), some (.int v3), some (.int v4), some (.int v5), some (.int v6), some (.int v7), some (.int v8), some (.int v9), some (.int v10)], [.int v9, .ref 84], M)) (by decide +kernel) (hO := mm_own_215) rfl ?_
        exact (ms_215_j214 hd h hA : mp_215_214 L xs (d + 1) v1 v2 v3 v4 v5 v6 v7 v8 v9 v10 v9 M o)
      · replace h := mm_iq hc h
        refine mm_Runs.seq (l := [(199, .aload_n 0, 1), (200, .getfield 13, 3), (203, .aload_n 0, 1), (204, .getfield 28, 3), (207, .iload 9, 2)]) (S2 := (209, [some (.ref 84), some (.int v1), some (.int v2), some (.int v3), some (.int v4), some (.int v5), some (.int v6), some (.int v7), some (.int v8), some (.int v9), some (.int v10)], [.int v9, .ref 91, .ref 86, .ref 84], M)) (by decide +kernel) (hO := mm_own_215) rfl ?_
        obtain ⟨hb, h⟩ := mm_gd h
        refine mm_R_iald rfl rfl hb ?_
        refine mm_Runs.seq (l := [(210, .iload 10, 2), (212, .iadd, 1)]) (S2 := (213, [some (.ref 84), some (.int v1), some (.int v2), some (.int v3), some (.int v4), some (.int v5), some (.int v6), some (.int v7), some (.int v8), some (.int v9), some (.int v10)], [.int ((M.1 91 v9.toNatClampNeg) + v10), .ref 86, .ref 84], M)) (by decide +kernel) (hO := mm_own_215) rfl ?_
        obtain ⟨hb, h⟩ := mm_gd h
        refine mm_R_iald rfl rfl hb ?_
        exact (ms_215_j214 hd h hA : mp_215_214 L xs (d + 1) v1 v2 v3 v4 v5 v6 v7 v8 v9 v10 (M.1 86 ((M.1 91 v9.toNatClampNeg) + v10).toNatClampNeg) M o)
    · replace h := mm_iq hc h
      cases h
      exact (show mp_215_224 L xs (d + 1) v1 v2 v3 v4 v5 v6 v7 v8 M o from hA) (some (.int v9)) (some (.int v10))
  · replace h := mm_iq hc h
    cases h
    exact (show mp_215_224 L xs (d + 1) v1 v2 v3 v4 v5 v6 v7 v8 M o from hA) (some (.int v9)) (some (.int v10))
theorem ms_215_L173 {L : Nat} {xs : Nat → Int32} {d : Nat} (hd : 4 ≤ d) {v1 : Int32} {v2 : Int32} {v3 : Int32} {v4 : Int32} {v5 : Int32} {v6 : Int32} {v7 : Int32} {v8 : Int32} {v9 : Int32} {v10 : Int32} {β : Type} {K : β → mm_M → mm_E → Prop} {F : (Unit) → mm_M → mm_O β} {M : mm_M} {q : (β ⊕ Nat) × mm_M} {o : mm_E} (h : mm_B (mf_215_L173 v1 v2 v3 v4 v5 v6 v7 v8 v9 v10 M) F = some q) (hA : mm_A K q o) (hx : ∀ (r : (Unit)) (M2 : mm_M), F r M2 = some q → (fun r M o => mp_215_224 L xs (d) v1 v2 v3 v4 v5 v6 v7 v8 M o) r M2 o) : mp_215_173 L xs d v1 v2 v3 v4 v5 v6 v7 v8 v9 v10 M o := by
  unfold mf_215_L173 at h
  exact mm_R_loop (step := (fun s M => mf_215_b173 v1 v2 v3 v4 v5 v6 v7 v8 v9 s M)) (s := v10) (M := M) (P := (fun s M o => mp_215_173 L xs (d) v1 v2 v3 v4 v5 v6 v7 v8 v9 s M o)) (X := (fun r M o => mp_215_224 L xs (d) v1 v2 v3 v4 v5 v6 v7 v8 M o)) h hA (fun s M q hq hA => ms_215_b173 (v1 := v1) (v2 := v2) (v3 := v3) (v4 := v4) (v5 := v5) (v6 := v6) (v7 := v7) (v8 := v8) (v9 := v9) (v10 := s) (M := M) (q := q) hd hq hA) hx
def mp_215_244 (L : Nat) (xs : Nat → Int32) (d : Nat) (v1 : Int32) (v2 : Int32) (v3 : Int32) (v4 : Int32) (v5 : Int32) (v6 : Int32) (v7 : Int32) (v8 : Int32) (s0 : Int32) (s1 : Int32) (s2 : Int32) (M : mm_M) (o : mm_E) : Prop := ∀ z9 z10 : Option Value, mm_Runs L xs d 215 (244, [some (.ref 84), some (.int v1), some (.int v2), some (.int v3), some (.int v4), some (.int v5), some (.int v6), some (.int v7), some (.int v8), z9, z10], [.int s2, .int s1, .int s0], M) o
set_option maxRecDepth 8000 in
set_option maxHeartbeats 4000000 in
theorem ms_215_j244 {L : Nat} {xs : Nat → Int32} {d : Nat} (hd : 4 ≤ d) {v1 : Int32} {v2 : Int32} {v3 : Int32} {v4 : Int32} {v5 : Int32} {v6 : Int32} {v7 : Int32} {v8 : Int32} {s0 : Int32} {s1 : Int32} {s2 : Int32} {M : mm_M} {q : (((Int32 × Int32 × Int32 × Int32 × Int32) ⊕ (Unit)) ⊕ Nat) × mm_M} {o : mm_E} (h : mf_215_j244 v1 v2 v3 v4 v5 v6 v7 v8 s0 s1 s2 M = some q) (hA : mm_A (mm_K2 (fun s M o => mp_215_23 L xs (d) v1 v2 v3 s.1 s.2.1 s.2.2.1 s.2.2.2.1 s.2.2.2.2 M o) (fun r M o => mp_215_263 L xs (d) M o)) q o) : mp_215_244 L xs d v1 v2 v3 v4 v5 v6 v7 v8 s0 s1 s2 M o := by
  unfold mf_215_j244 at h
  obtain ⟨d, rfl⟩ := mm_d1 (n := 3) hd
  intro z9 z10
  show mm_Runs L xs (d + 1) 215 (244, [some (.ref 84), some (.int v1), some (.int v2), some (.int v3), some (.int v4), some (.int v5), some (.int v6), some (.int v7), some (.int v8), z9, z10], [.int s2, .int s1, .int s0], M) o
  refine mm_Runs.seq (l := [(244, .iadd, 1), (245, .iconst 1, 1), (246, .iload 4, 2), (248, .ishl, 1)]) (S2 := (249, [some (.ref 84), some (.int v1), some (.int v2), some (.int v3), some (.int v4), some (.int v5), some (.int v6), some (.int v7), some (.int v8), z9, z10], [.int (mm_shl (1 : Int32) v4), .int (s1 + s2), .int s0], M)) (by decide +kernel) (hO := mm_own_215) rfl ?_
  refine mm_R_ilt (t := 256) rfl rfl rfl (fun hc => ?_) (fun hc => ?_)
  · replace h := mm_ip hc h
    refine mm_Runs.seq (l := [(256, .iconst 0, 1), (257, .iadd, 1), (258, .istore 4, 2), (260, .goto (-237), 3)]) (S2 := (23, [some (.ref 84), some (.int v1), some (.int v2), some (.int v3), some (.int (s0 + (0 : Int32))), some (.int v5), some (.int v6), some (.int v7), some (.int v8), z9, z10], [], M)) (by decide +kernel) (hO := mm_own_215) rfl ?_
    cases h
    exact (show mp_215_23 L xs (d + 1) v1 v2 v3 (s0 + (0 : Int32)) v5 v6 v7 v8 M o from hA) z9 z10
  · replace h := mm_iq hc h
    refine mm_Runs.seq (l := [(252, .iconst 1, 1), (253, .goto 4, 3), (257, .iadd, 1), (258, .istore 4, 2), (260, .goto (-237), 3)]) (S2 := (23, [some (.ref 84), some (.int v1), some (.int v2), some (.int v3), some (.int (s0 + (1 : Int32))), some (.int v5), some (.int v6), some (.int v7), some (.int v8), z9, z10], [], M)) (by decide +kernel) (hO := mm_own_215) rfl ?_
    cases h
    exact (show mp_215_23 L xs (d + 1) v1 v2 v3 (s0 + (1 : Int32)) v5 v6 v7 v8 M o from hA) z9 z10
set_option maxRecDepth 8000 in
set_option maxHeartbeats 4000000 in
theorem ms_215_j224 {L : Nat} {xs : Nat → Int32} {d : Nat} (hd : 4 ≤ d) {v1 : Int32} {v2 : Int32} {v3 : Int32} {v4 : Int32} {v5 : Int32} {v6 : Int32} {v7 : Int32} {v8 : Int32} {M : mm_M} {q : (((Int32 × Int32 × Int32 × Int32 × Int32) ⊕ (Unit)) ⊕ Nat) × mm_M} {o : mm_E} (h : mf_215_j224 v1 v2 v3 v4 v5 v6 v7 v8 M = some q) (hA : mm_A (mm_K2 (fun s M o => mp_215_23 L xs (d) v1 v2 v3 s.1 s.2.1 s.2.2.1 s.2.2.2.1 s.2.2.2.2 M o) (fun r M o => mp_215_263 L xs (d) M o)) q o) : mp_215_224 L xs d v1 v2 v3 v4 v5 v6 v7 v8 M o := by
  unfold mf_215_j224 at h
  obtain ⟨d, rfl⟩ := mm_d1 (n := 3) hd
  intro z9 z10
  show mm_Runs L xs (d + 1) 215 (224, [some (.ref 84), some (.int v1), some (.int v2), some (.int v3), some (.int v4), some (.int v5), some (.int v6), some (.int v7), some (.int v8), z9, z10], [], M) o
  refine mm_Runs.seq (l := [(224, .iload 4, 2), (226, .iload 4, 2), (228, .bipush 12, 2)]) (S2 := (230, [some (.ref 84), some (.int v1), some (.int v2), some (.int v3), some (.int v4), some (.int v5), some (.int v6), some (.int v7), some (.int v8), z9, z10], [.int (12 : Int32), .int v4, .int v4], M)) (by decide +kernel) (hO := mm_own_215) rfl ?_
  refine mm_R_ige (t := 256) rfl rfl rfl (fun hc => ?_) (fun hc => ?_)
  · replace h := mm_ip hc h
    refine mm_Runs.seq (l := [(233, .iload 5, 2), (235, .iload_n 2, 1)]) (S2 := (236, [some (.ref 84), some (.int v1), some (.int v2), some (.int v3), some (.int v4), some (.int v5), some (.int v6), some (.int v7), some (.int v8), z9, z10], [.int v2, .int v5, .int v4], M)) (by decide +kernel) (hO := mm_own_215) rfl ?_
    refine mm_R_zeq (t := 243) rfl rfl rfl (fun hc => ?_) (fun hc => ?_)
    · replace h := mm_ip hc h
      refine mm_Runs.seq (l := [(243, .iconst 0, 1)]) (S2 := (244, [some (.ref 84), some (.int v1), some (.int v2), some (.int v3), some (.int v4), some (.int v5), some (.int v6), some (.int v7), some (.int v8), z9, z10], [.int (0 : Int32), .int v5, .int v4], M)) (by decide +kernel) (hO := mm_own_215) rfl ?_
      exact (ms_215_j244 hd h hA : mp_215_244 L xs (d + 1) v1 v2 v3 v4 v5 v6 v7 v8 v4 v5 (0 : Int32) M o) z9 z10
    · replace h := mm_iq hc h
      refine mm_Runs.seq (l := [(239, .iconst 1, 1), (240, .goto 4, 3)]) (S2 := (244, [some (.ref 84), some (.int v1), some (.int v2), some (.int v3), some (.int v4), some (.int v5), some (.int v6), some (.int v7), some (.int v8), z9, z10], [.int (1 : Int32), .int v5, .int v4], M)) (by decide +kernel) (hO := mm_own_215) rfl ?_
      exact (ms_215_j244 hd h hA : mp_215_244 L xs (d + 1) v1 v2 v3 v4 v5 v6 v7 v8 v4 v5 (1 : Int32) M o) z9 z10
  · replace h := mm_iq hc h
    refine mm_Runs.seq (l := [(256, .iconst 0, 1), (257, .iadd, 1), (258, .istore 4, 2), (260, .goto (-237), 3)]) (S2 := (23, [some (.ref 84), some (.int v1), some (.int v2), some (.int v3), some (.int (v4 + (0 : Int32))), some (.int v5), some (.int v6), some (.int v7), some (.int v8), z9, z10], [], M)) (by decide +kernel) (hO := mm_own_215) rfl ?_
    cases h
    exact (show mp_215_23 L xs (d + 1) v1 v2 v3 (v4 + (0 : Int32)) v5 v6 v7 v8 M o from hA) z9 z10
set_option maxRecDepth 8000 in
set_option maxHeartbeats 4000000 in
theorem ms_215_j134 {L : Nat} {xs : Nat → Int32} {d : Nat} (hd : 4 ≤ d) {v1 : Int32} {v2 : Int32} {v3 : Int32} {v4 : Int32} {v5 : Int32} {v8 : Int32} {v9 : Int32} {M : mm_M} {q : (((Int32 × Int32 × Int32 × Int32 × Int32) ⊕ (Unit)) ⊕ Nat) × mm_M} {o : mm_E} (h : mf_215_j134 v1 v2 v3 v4 v5 v8 v9 M = some q) (hA : mm_A (mm_K2 (fun s M o => mp_215_23 L xs (d) v1 v2 v3 s.1 s.2.1 s.2.2.1 s.2.2.2.1 s.2.2.2.2 M o) (fun r M o => mp_215_263 L xs (d) M o)) q o) : mp_215_134 L xs d v1 v2 v3 v4 v5 v8 v9 M o := by
  unfold mf_215_j134 at h
  obtain ⟨d, rfl⟩ := mm_d1 (n := 3) hd
  intro z6 z7 z10
  show mm_Runs L xs (d + 1) 215 (134, [some (.ref 84), some (.int v1), some (.int v2), some (.int v3), some (.int v4), some (.int v5), z6, z7, some (.int v8), some (.int v9), z10], [], M) o
  refine mm_Runs.seq (l := [(134, .aload_n 0, 1), (135, .getfield 98, 3), (138, .istore 6, 2), (140, .iload 9, 2), (142, .iload_n 3, 1)]) (S2 := (143, [some (.ref 84), some (.int v1), some (.int v2), some (.int v3), some (.int v4), some (.int v5), some (.int (M.1 84 4)), z7, some (.int v8), some (.int v9), z10], [.int v3, .int v9], M)) (by decide +kernel) (hO := mm_own_215) rfl ?_
  refine mm_R_ige (t := 150) rfl rfl rfl (fun hc => ?_) (fun hc => ?_)
  · replace h := mm_ip hc h
    refine mm_Runs.seq (l := [(146, .iconst 1, 1), (147, .goto 21, 3), (168, .istore 7, 2), (170, .iconst 0, 1), (171, .istore 10, 2)]) (S2 := (173, [some (.ref 84), some (.int v1), some (.int v2), some (.int v3), some (.int v4), some (.int v5), some (.int (M.1 84 4)), some (.int (1 : Int32)), some (.int v8), some (.int v9), some (.int (0 : Int32))], [], M)) (by decide +kernel) (hO := mm_own_215) rfl ?_
    have hp : mp_215_173 L xs (d + 1) v1 v2 v3 v4 v5 (M.1 84 4) (1 : Int32) v8 v9 (0 : Int32) M o := by
      refine ms_215_L173 hd h hA (fun r2 M1 h => ?_)
      intro y3 y4
      show mm_Runs L xs (d + 1) 215 (224, [some (.ref 84), some (.int v1), some (.int v2), some (.int v3), some (.int v4), some (.int v5), some (.int (M.1 84 4)), some (.int (1 : Int32)), some (.int v8), y3, y4], [], M1) o
      exact (ms_215_j224 hd h hA : mp_215_224 L xs (d + 1) v1 v2 v3 v4 v5 (M.1 84 4) (1 : Int32) v8 M1 o) y3 y4
    exact hp
  · replace h := mm_iq hc h
    refine mm_Runs.seq (l := [(150, .aload_n 0, 1), (151, .getfield 154, 3)]) (S2 := (154, [some (.ref 84), some (.int v1), some (.int v2), some (.int v3), some (.int v4), some (.int v5), some (.int (M.1 84 4)), z7, some (.int v8), some (.int v9), z10], [.int (M.1 84 7)], M)) (by decide +kernel) (hO := mm_own_215) rfl ?_
    refine mm_R_zeq (t := 161) rfl rfl rfl (fun hc => ?_) (fun hc => ?_)
    · replace h := mm_ip hc h
      refine mm_Runs.seq (l := [(161, .aload_n 0, 1), (162, .getfield 31, 3), (165, .iload 9, 2)]) (S2 := (167, [some (.ref 84), some (.int v1), some (.int v2), some (.int v3), some (.int v4), some (.int v5), some (.int (M.1 84 4)), z7, some (.int v8), some (.int v9), z10], [.int v9, .ref 92], M)) (by decide +kernel) (hO := mm_own_215) rfl ?_
      obtain ⟨hb, h⟩ := mm_gd h
      refine mm_R_iald rfl rfl hb ?_
      refine mm_Runs.seq (l := [(168, .istore 7, 2), (170, .iconst 0, 1), (171, .istore 10, 2)]) (S2 := (173, [some (.ref 84), some (.int v1), some (.int v2), some (.int v3), some (.int v4), some (.int v5), some (.int (M.1 84 4)), some (.int (M.1 92 v9.toNatClampNeg)), some (.int v8), some (.int v9), some (.int (0 : Int32))], [], M)) (by decide +kernel) (hO := mm_own_215) rfl ?_
      have hp : mp_215_173 L xs (d + 1) v1 v2 v3 v4 v5 (M.1 84 4) (M.1 92 v9.toNatClampNeg) v8 v9 (0 : Int32) M o := by
        refine ms_215_L173 hd h hA (fun r6 M5 h => ?_)
        intro y7 y8
        show mm_Runs L xs (d + 1) 215 (224, [some (.ref 84), some (.int v1), some (.int v2), some (.int v3), some (.int v4), some (.int v5), some (.int (M.1 84 4)), some (.int (M.1 92 v9.toNatClampNeg)), some (.int v8), y7, y8], [], M5) o
        exact (ms_215_j224 hd h hA : mp_215_224 L xs (d + 1) v1 v2 v3 v4 v5 (M.1 84 4) (M.1 92 v9.toNatClampNeg) v8 M5 o) y7 y8
      exact hp
    · replace h := mm_iq hc h
      refine mm_Runs.seq (l := [(157, .iconst 0, 1), (158, .goto 10, 3), (168, .istore 7, 2), (170, .iconst 0, 1), (171, .istore 10, 2)]) (S2 := (173, [some (.ref 84), some (.int v1), some (.int v2), some (.int v3), some (.int v4), some (.int v5), some (.int (M.1 84 4)), some (.int (0 : Int32)), some (.int v8), some (.int v9), some (.int (0 : Int32))], [], M)) (by decide +kernel) (hO := mm_own_215) rfl ?_
      have hp : mp_215_173 L xs (d + 1) v1 v2 v3 v4 v5 (M.1 84 4) (0 : Int32) v8 v9 (0 : Int32) M o := by
        refine ms_215_L173 hd h hA (fun r10 M9 h => ?_)
        intro y11 y12
        show mm_Runs L xs (d + 1) 215 (224, [some (.ref 84), some (.int v1), some (.int v2), some (.int v3), some (.int v4), some (.int v5), some (.int (M.1 84 4)), some (.int (0 : Int32)), some (.int v8), y11, y12], [], M9) o
        exact (ms_215_j224 hd h hA : mp_215_224 L xs (d + 1) v1 v2 v3 v4 v5 (M.1 84 4) (0 : Int32) v8 M9 o) y11 y12
      exact hp
set_option maxRecDepth 8000 in
set_option maxHeartbeats 4000000 in
theorem ms_215_j123 {L : Nat} {xs : Nat → Int32} {d : Nat} (hd : 4 ≤ d) {v1 : Int32} {v2 : Int32} {v3 : Int32} {v4 : Int32} {v5 : Int32} {v8 : Int32} {v9 : Int32} {M : mm_M} {q : (((Int32 × Int32 × Int32 × Int32 × Int32) ⊕ (Unit)) ⊕ Nat) × mm_M} {o : mm_E} (h : mf_215_j123 v1 v2 v3 v4 v5 v8 v9 M = some q) (hA : mm_A (mm_K2 (fun s M o => mp_215_23 L xs (d) v1 v2 v3 s.1 s.2.1 s.2.2.1 s.2.2.2.1 s.2.2.2.2 M o) (fun r M o => mp_215_263 L xs (d) M o)) q o) : mp_215_123 L xs d v1 v2 v3 v4 v5 v8 v9 M o := by
  unfold mf_215_j123 at h
  obtain ⟨d, rfl⟩ := mm_d1 (n := 3) hd
  intro z6 z7 z10
  show mm_Runs L xs (d + 1) 215 (123, [some (.ref 84), some (.int v1), some (.int v2), some (.int v3), some (.int v4), some (.int v5), z6, z7, some (.int v8), some (.int v9), z10], [], M) o
  refine mm_Runs.seq (l := [(123, .iload 9, 2), (125, .iload 5, 2)]) (S2 := (127, [some (.ref 84), some (.int v1), some (.int v2), some (.int v3), some (.int v4), some (.int v5), z6, z7, some (.int v8), some (.int v9), z10], [.int v5, .int v9], M)) (by decide +kernel) (hO := mm_own_215) rfl ?_
  refine mm_R_ilt (t := 134) rfl rfl rfl (fun hc => ?_) (fun hc => ?_)
  · replace h := mm_ip hc h
    exact (ms_215_j134 hd h hA : mp_215_134 L xs (d + 1) v1 v2 v3 v4 v5 v8 v9 M o) z6 z7 z10
  · replace h := mm_iq hc h
    refine mm_Runs.seq (l := [(130, .aload_n 0, 1)]) (S2 := (131, [some (.ref 84), some (.int v1), some (.int v2), some (.int v3), some (.int v4), some (.int v5), z6, z7, some (.int v8), some (.int v9), z10], [.ref 84], M)) (by decide +kernel) (hO := mm_own_215) rfl ?_
    refine mm_R_call (v := mm_wv) h hA (k2 := 190) (as := [.ref 84]) (r := []) rfl (fun _ => rfl) (fun q hq o ho => ms_190 (by omega) hq ho) (fun _ M1 h => ?_)
    show mm_Runs L xs (d + 1) 215 (134, [some (.ref 84), some (.int v1), some (.int v2), some (.int v3), some (.int v4), some (.int v5), z6, z7, some (.int v8), some (.int v9), z10], [], M1) o
    exact (ms_215_j134 hd h hA : mp_215_134 L xs (d + 1) v1 v2 v3 v4 v5 v8 v9 M1 o) z6 z7 z10
set_option maxRecDepth 8000 in
set_option maxHeartbeats 4000000 in
theorem ms_215_b23 {L : Nat} {xs : Nat → Int32} {d : Nat} (hd : 4 ≤ d) {v1 : Int32} {v2 : Int32} {v3 : Int32} {v4 : Int32} {v5 : Int32} {v6 : Int32} {v7 : Int32} {v8 : Int32} {M : mm_M} {q : (((Int32 × Int32 × Int32 × Int32 × Int32) ⊕ (Unit)) ⊕ Nat) × mm_M} {o : mm_E} (h : mf_215_b23 v1 v2 v3 v4 v5 v6 v7 v8 M = some q) (hA : mm_A (mm_K2 (fun s M o => mp_215_23 L xs (d) v1 v2 v3 s.1 s.2.1 s.2.2.1 s.2.2.2.1 s.2.2.2.2 M o) (fun r M o => mp_215_263 L xs (d) M o)) q o) : mp_215_23 L xs d v1 v2 v3 v4 v5 v6 v7 v8 M o := by
  unfold mf_215_b23 at h
  obtain ⟨d, rfl⟩ := mm_d1 (n := 3) hd
  intro z9 z10
  show mm_Runs L xs (d + 1) 215 (23, [some (.ref 84), some (.int v1), some (.int v2), some (.int v3), some (.int v4), some (.int v5), some (.int v6), some (.int v7), some (.int v8), z9, z10], [], M) o
  refine mm_Runs.seq (l := [(23, .iload 8, 2)]) (S2 := (25, [some (.ref 84), some (.int v1), some (.int v2), some (.int v3), some (.int v4), some (.int v5), some (.int v6), some (.int v7), some (.int v8), z9, z10], [.int v8], M)) (by decide +kernel) (hO := mm_own_215) rfl ?_
  refine mm_R_zeq (t := 263) rfl rfl rfl (fun hc => ?_) (fun hc => ?_)
  · replace h := mm_ip hc h
    cases h
    exact (show mp_215_263 L xs (d + 1) M o from hA) (some (.ref 84)) (some (.int v1)) (some (.int v2)) (some (.int v3)) (some (.int v4)) (some (.int v5)) (some (.int v6)) (some (.int v7)) (some (.int v8)) z9 z10
  · replace h := mm_iq hc h
    refine mm_Runs.seq (l := [(28, .aload_n 0, 1), (29, .getfield 154, 3)]) (S2 := (32, [some (.ref 84), some (.int v1), some (.int v2), some (.int v3), some (.int v4), some (.int v5), some (.int v6), some (.int v7), some (.int v8), z9, z10], [.int (M.1 84 7)], M)) (by decide +kernel) (hO := mm_own_215) rfl ?_
    refine mm_R_zne (t := 263) rfl rfl rfl (fun hc => ?_) (fun hc => ?_)
    · replace h := mm_ip hc h
      refine mm_Runs.seq (l := [(35, .aload_n 0, 1), (36, .iload 4, 2)]) (S2 := (38, [some (.ref 84), some (.int v1), some (.int v2), some (.int v3), some (.int v4), some (.int v5), some (.int v6), some (.int v7), some (.int v8), z9, z10], [.int v4, .ref 84], M)) (by decide +kernel) (hO := mm_own_215) rfl ?_
      refine mm_R_call (v := mm_wl) h hA (k2 := 198) (as := [.ref 84, .int v4]) (r := []) rfl (fun _ => rfl) (fun q hq o ho => ms_198 (by omega) hq ho) (fun r1 M2 h => ?_)
      show mm_Runs L xs (d + 1) 215 (41, [some (.ref 84), some (.int v1), some (.int v2), some (.int v3), some (.int v4), some (.int v5), some (.int v6), some (.int v7), some (.int v8), z9, z10], [.long r1], M2) o
      refine mm_Runs.seq (l := [(41, .l2i, 1), (42, .istore 9, 2), (44, .aload_n 0, 1), (45, .getfield 154, 3)]) (S2 := (48, [some (.ref 84), some (.int v1), some (.int v2), some (.int v3), some (.int v4), some (.int v5), some (.int v6), some (.int v7), some (.int v8), some (.int r1.toInt32), z10], [.int (M2.1 84 7)], M2)) (by decide +kernel) (hO := mm_own_215) rfl ?_
      refine mm_R_zne (t := 59) rfl rfl rfl (fun hc => ?_) (fun hc => ?_)
      · replace h := mm_ip hc h
        refine mm_Runs.seq (l := [(51, .iload 9, 2), (53, .iload_n 3, 1), (54, .iconst 1, 1), (55, .iadd, 1)]) (S2 := (56, [some (.ref 84), some (.int v1), some (.int v2), some (.int v3), some (.int v4), some (.int v5), some (.int v6), some (.int v7), some (.int v8), some (.int r1.toInt32), z10], [.int (v3 + (1 : Int32)), .int r1.toInt32], M2)) (by decide +kernel) (hO := mm_own_215) rfl ?_
        refine mm_R_ine (t := 65) rfl rfl rfl (fun hc => ?_) (fun hc => ?_)
        · replace h := mm_ip hc h
          refine mm_Runs.seq (l := [(59, .iconst 0, 1), (60, .istore 8, 2), (62, .goto 198, 3), (260, .goto (-237), 3)]) (S2 := (23, [some (.ref 84), some (.int v1), some (.int v2), some (.int v3), some (.int v4), some (.int v5), some (.int v6), some (.int v7), some (.int (0 : Int32)), some (.int r1.toInt32), z10], [], M2)) (by decide +kernel) (hO := mm_own_215) rfl ?_
          cases h
          exact (show mp_215_23 L xs (d + 1) v1 v2 v3 v4 v5 v6 v7 (0 : Int32) M2 o from hA) (some (.int r1.toInt32)) z10
        · replace h := mm_iq hc h
          refine mm_Runs.seq (l := [(65, .iload 9, 2), (67, .iload_n 3, 1)]) (S2 := (68, [some (.ref 84), some (.int v1), some (.int v2), some (.int v3), some (.int v4), some (.int v5), some (.int v6), some (.int v7), some (.int v8), some (.int r1.toInt32), z10], [.int v3, .int r1.toInt32], M2)) (by decide +kernel) (hO := mm_own_215) rfl ?_
          refine mm_R_ine (t := 87) rfl rfl rfl (fun hc => ?_) (fun hc => ?_)
          · replace h := mm_ip hc h
            refine mm_Runs.seq (l := [(71, .iload_n 1, 1), (72, .iconst 1, 1), (73, .iadd, 1), (74, .istore 4, 2), (76, .iload_n 3, 1), (77, .iconst 2, 1), (78, .iadd, 1), (79, .istore 5, 2), (81, .iconst 0, 1), (82, .istore 7, 2), (84, .goto 176, 3), (260, .goto (-237), 3)]) (S2 := (23, [some (.ref 84), some (.int v1), some (.int v2), some (.int v3), some (.int (v1 + (1 : Int32))), some (.int (v3 + (2 : Int32))), some (.int v6), some (.int (0 : Int32)), some (.int v8), some (.int r1.toInt32), z10], [], M2)) (by decide +kernel) (hO := mm_own_215) rfl ?_
            cases h
            exact (show mp_215_23 L xs (d + 1) v1 v2 v3 (v1 + (1 : Int32)) (v3 + (2 : Int32)) v6 (0 : Int32) v8 M2 o from hA) (some (.int r1.toInt32)) z10
          · replace h := mm_iq hc h
            refine mm_Runs.seq (l := [(87, .iload 7, 2)]) (S2 := (89, [some (.ref 84), some (.int v1), some (.int v2), some (.int v3), some (.int v4), some (.int v5), some (.int v6), some (.int v7), some (.int v8), some (.int r1.toInt32), z10], [.int v7], M2)) (by decide +kernel) (hO := mm_own_215) rfl ?_
            refine mm_R_zle (t := 123) rfl rfl rfl (fun hc => ?_) (fun hc => ?_)
            · replace h := mm_ip hc h
              refine mm_Runs.seq (l := [(92, .iload 5, 2), (94, .sipush 4096, 3)]) (S2 := (97, [some (.ref 84), some (.int v1), some (.int v2), some (.int v3), some (.int v4), some (.int v5), some (.int v6), some (.int v7), some (.int v8), some (.int r1.toInt32), z10], [.int (4096 : Int32), .int v5], M2)) (by decide +kernel) (hO := mm_own_215) rfl ?_
              refine mm_R_ige (t := 123) rfl rfl rfl (fun hc => ?_) (fun hc => ?_)
              · replace h := mm_ip hc h
                refine mm_Runs.seq (l := [(100, .aload_n 0, 1), (101, .getfield 28, 3), (104, .iload 5, 2), (106, .iload 6, 2)]) (S2 := (108, [some (.ref 84), some (.int v1), some (.int v2), some (.int v3), some (.int v4), some (.int v5), some (.int v6), some (.int v7), some (.int v8), some (.int r1.toInt32), z10], [.int v6, .int v5, .ref 91], M2)) (by decide +kernel) (hO := mm_own_215) rfl ?_
                obtain ⟨hb, h⟩ := mm_gd h
                refine mm_R_iast rfl rfl hb ?_
                refine mm_Runs.seq (l := [(109, .aload_n 0, 1), (110, .getfield 31, 3), (113, .iload 5, 2), (115, .iload 7, 2), (117, .iconst 1, 1), (118, .iadd, 1)]) (S2 := (119, [some (.ref 84), some (.int v1), some (.int v2), some (.int v3), some (.int v4), some (.int v5), some (.int v6), some (.int v7), some (.int v8), some (.int r1.toInt32), z10], [.int (v7 + (1 : Int32)), .int v5, .ref 92], (mm_pi M2 91 v5.toNatClampNeg v6))) (by decide +kernel) (hO := mm_own_215) rfl ?_
                obtain ⟨hb, h⟩ := mm_gd h
                refine mm_R_iast rfl rfl hb ?_
                refine mm_Runs.seq (l := [(120, .iinc 5 1, 3)]) (S2 := (123, [some (.ref 84), some (.int v1), some (.int v2), some (.int v3), some (.int v4), some (.int (v5 + (1 : Int32))), some (.int v6), some (.int v7), some (.int v8), some (.int r1.toInt32), z10], [], (mm_pi (mm_pi M2 91 v5.toNatClampNeg v6) 92 v5.toNatClampNeg (v7 + (1 : Int32))))) (by decide +kernel) (hO := mm_own_215) rfl ?_
                exact (ms_215_j123 hd h hA : mp_215_123 L xs (d + 1) v1 v2 v3 v4 (v5 + (1 : Int32)) v8 r1.toInt32 (mm_pi (mm_pi M2 91 v5.toNatClampNeg v6) 92 v5.toNatClampNeg (v7 + (1 : Int32))) o) (some (.int v6)) (some (.int v7)) z10
              · replace h := mm_iq hc h
                exact (ms_215_j123 hd h hA : mp_215_123 L xs (d + 1) v1 v2 v3 v4 v5 v8 r1.toInt32 M2 o) (some (.int v6)) (some (.int v7)) z10
            · replace h := mm_iq hc h
              exact (ms_215_j123 hd h hA : mp_215_123 L xs (d + 1) v1 v2 v3 v4 v5 v8 r1.toInt32 M2 o) (some (.int v6)) (some (.int v7)) z10
      · replace h := mm_iq hc h
        refine mm_Runs.seq (l := [(59, .iconst 0, 1), (60, .istore 8, 2), (62, .goto 198, 3), (260, .goto (-237), 3)]) (S2 := (23, [some (.ref 84), some (.int v1), some (.int v2), some (.int v3), some (.int v4), some (.int v5), some (.int v6), some (.int v7), some (.int (0 : Int32)), some (.int r1.toInt32), z10], [], M2)) (by decide +kernel) (hO := mm_own_215) rfl ?_
        cases h
        exact (show mp_215_23 L xs (d + 1) v1 v2 v3 v4 v5 v6 v7 (0 : Int32) M2 o from hA) (some (.int r1.toInt32)) z10
    · replace h := mm_iq hc h
      cases h
      exact (show mp_215_263 L xs (d + 1) M o from hA) (some (.ref 84)) (some (.int v1)) (some (.int v2)) (some (.int v3)) (some (.int v4)) (some (.int v5)) (some (.int v6)) (some (.int v7)) (some (.int v8)) z9 z10
theorem ms_215_L23 {L : Nat} {xs : Nat → Int32} {d : Nat} (hd : 4 ≤ d) {v1 : Int32} {v2 : Int32} {v3 : Int32} {v4 : Int32} {v5 : Int32} {v6 : Int32} {v7 : Int32} {v8 : Int32} {β : Type} {K : β → mm_M → mm_E → Prop} {F : (Unit) → mm_M → mm_O β} {M : mm_M} {q : (β ⊕ Nat) × mm_M} {o : mm_E} (h : mm_B (mf_215_L23 v1 v2 v3 (v4, v5, v6, v7, v8) M) F = some q) (hA : mm_A K q o) (hx : ∀ (r : (Unit)) (M2 : mm_M), F r M2 = some q → (fun r M o => mp_215_263 L xs (d) M o) r M2 o) : mp_215_23 L xs d v1 v2 v3 v4 v5 v6 v7 v8 M o := by
  unfold mf_215_L23 at h
  exact mm_R_loop (step := (fun s M => mf_215_b23 v1 v2 v3 s.1 s.2.1 s.2.2.1 s.2.2.2.1 s.2.2.2.2 M)) (s := (v4, v5, v6, v7, v8)) (M := M) (P := (fun s M o => mp_215_23 L xs (d) v1 v2 v3 s.1 s.2.1 s.2.2.1 s.2.2.2.1 s.2.2.2.2 M o)) (X := (fun r M o => mp_215_263 L xs (d) M o)) h hA (fun s M q hq hA => ms_215_b23 (v1 := v1) (v2 := v2) (v3 := v3) (v4 := s.1) (v5 := s.2.1) (v6 := s.2.2.1) (v7 := s.2.2.2.1) (v8 := s.2.2.2.2) (M := M) (q := q) hd hq hA) hx
set_option maxRecDepth 8000 in
set_option maxHeartbeats 4000000 in
theorem ms_215 {L : Nat} {xs : Nat → Int32} {d : Nat} (hd : 4 ≤ d) {v1 : Int32} {v2 : Int32} {M : mm_M} {q : (Unit ⊕ Nat) × mm_M} {o : mm_E} (h : mf_215 v1 v2 M = some q) (hA : mm_A (mm_Kr mm_wv) q o) : mm_Runs L xs d 215 (0, mm_ent (mm_ml 215) [.ref 84, .int v1, .int v2], [], M) o := by
  unfold mf_215 at h
  obtain ⟨d, rfl⟩ := mm_d1 (n := 3) hd
  show mm_Runs L xs (d + 1) 215 (0, [some (.ref 84), some (.int v1), some (.int v2), none, none, none, none, none, none, none, none], [], M) o
  refine mm_Runs.seq (l := [(0, .iconst 1, 1), (1, .iload_n 1, 1), (2, .ishl, 1), (3, .istore_n 3, 1), (4, .iload_n 1, 1), (5, .iconst 1, 1), (6, .iadd, 1), (7, .istore 4, 2), (9, .iload_n 3, 1), (10, .iconst 2, 1), (11, .iadd, 1), (12, .istore 5, 2), (14, .iconst 0, 1), (15, .istore 6, 2), (17, .iconst 0, 1), (18, .istore 7, 2), (20, .iconst 1, 1), (21, .istore 8, 2)]) (S2 := (23, [some (.ref 84), some (.int v1), some (.int v2), some (.int (mm_shl (1 : Int32) v1)), some (.int (v1 + (1 : Int32))), some (.int ((mm_shl (1 : Int32) v1) + (2 : Int32))), some (.int (0 : Int32)), some (.int (0 : Int32)), some (.int (1 : Int32)), none, none], [], M)) (by decide +kernel) (hO := mm_own_215) rfl ?_
  have hp : mp_215_23 L xs (d + 1) v1 v2 (mm_shl (1 : Int32) v1) (v1 + (1 : Int32)) ((mm_shl (1 : Int32) v1) + (2 : Int32)) (0 : Int32) (0 : Int32) (1 : Int32) M o := by
    refine ms_215_L23 hd h hA (fun r2 M1 h => ?_)
    intro y3 y4 y5 y6 y7 y8 y9 y10 y11 y12 y13
    show mm_Runs L xs (d + 1) 215 (263, [y3, y4, y5, y6, y7, y8, y9, y10, y11, y12, y13], [], M1) o
    cases h
    exact mm_R_retv rfl rfl hA
  exact hp none none
-- 216: PlainPacksModel.wordsLow()V (depth 5)
theorem mm_own_216 : mm_own 216 = 12 := rfl
def mp_216_23 (L : Nat) (xs : Nat → Int32) (d : Nat) (v1 : Int32) (M : mm_M) (o : mm_E) : Prop := mm_Runs L xs d 216 (23, [some (.ref 84), some (.int v1)], [], M) o
def mp_216_27 (L : Nat) (xs : Nat → Int32) (d : Nat) (v1 : Int32) (M : mm_M) (o : mm_E) : Prop := mm_Runs L xs d 216 (27, [some (.ref 84), some (.int v1)], [], M) o
set_option maxRecDepth 8000 in
set_option maxHeartbeats 4000000 in
theorem ms_216_j27 {L : Nat} {xs : Nat → Int32} {d : Nat} (hd : 5 ≤ d) {v1 : Int32} {M : mm_M} {q : (Unit ⊕ Nat) × mm_M} {o : mm_E} (h : mf_216_j27 v1 M = some q) (hA : mm_A (mm_Kr mm_wv) q o) : mp_216_27 L xs d v1 M o := by
  unfold mf_216_j27 at h
  obtain ⟨d, rfl⟩ := mm_d1 (n := 4) hd
  show mm_Runs L xs (d + 1) 216 (27, [some (.ref 84), some (.int v1)], [], M) o
  refine mm_Runs.seq (l := [(27, .aload_n 0, 1), (28, .iconst 0, 1), (29, .putfield 178, 3), (32, .aload_n 0, 1), (33, .getfield 154, 3)]) (S2 := (36, [some (.ref 84), some (.int v1)], [.int (M.1 84 7)], (mm_pi M 84 13 (0 : Int32)))) (by decide +kernel) (hO := mm_own_216) rfl ?_
  refine mm_R_zne (t := 45) rfl rfl rfl (fun hc => ?_) (fun hc => ?_)
  · replace h := mm_ip hc h
    refine mm_Runs.seq (l := [(39, .aload_n 0, 1), (40, .iload_n 1, 1), (41, .iconst 0, 1)]) (S2 := (42, [some (.ref 84), some (.int v1)], [.int (0 : Int32), .int v1, .ref 84], (mm_pi M 84 13 (0 : Int32)))) (by decide +kernel) (hO := mm_own_216) rfl ?_
    refine mm_R_call (v := mm_wv) h hA (k2 := 215) (as := [.ref 84, .int v1, .int (0 : Int32)]) (r := []) rfl (fun _ => rfl) (fun q hq o ho => ms_215 (by omega) hq ho) (fun _ M1 h => ?_)
    show mm_Runs L xs (d + 1) 216 (45, [some (.ref 84), some (.int v1)], [], M1) o
    cases h
    exact mm_R_retv rfl rfl hA
  · replace h := mm_iq hc h
    cases h
    exact mm_R_retv rfl rfl hA
set_option maxRecDepth 8000 in
set_option maxHeartbeats 4000000 in
theorem ms_216_j23 {L : Nat} {xs : Nat → Int32} {d : Nat} (hd : 5 ≤ d) {v1 : Int32} {M : mm_M} {q : (Unit ⊕ Nat) × mm_M} {o : mm_E} (h : mf_216_j23 v1 M = some q) (hA : mm_A (mm_Kr mm_wv) q o) : mp_216_23 L xs d v1 M o := by
  unfold mf_216_j23 at h
  obtain ⟨d, rfl⟩ := mm_d1 (n := 4) hd
  show mm_Runs L xs (d + 1) 216 (23, [some (.ref 84), some (.int v1)], [], M) o
  refine mm_Runs.seq (l := [(23, .aload_n 0, 1)]) (S2 := (24, [some (.ref 84), some (.int v1)], [.ref 84], M)) (by decide +kernel) (hO := mm_own_216) rfl ?_
  refine mm_R_call (v := mm_wv) h hA (k2 := 190) (as := [.ref 84]) (r := []) rfl (fun _ => rfl) (fun q hq o ho => ms_190 (by omega) hq ho) (fun _ M1 h => ?_)
  show mm_Runs L xs (d + 1) 216 (27, [some (.ref 84), some (.int v1)], [], M1) o
  exact (ms_216_j27 hd h hA : mp_216_27 L xs (d + 1) v1 M1 o)
set_option maxRecDepth 8000 in
set_option maxHeartbeats 4000000 in
theorem ms_216 {L : Nat} {xs : Nat → Int32} {d : Nat} (hd : 5 ≤ d) {M : mm_M} {q : (Unit ⊕ Nat) × mm_M} {o : mm_E} (h : mf_216 M = some q) (hA : mm_A (mm_Kr mm_wv) q o) : mm_Runs L xs d 216 (0, mm_ent (mm_ml 216) [.ref 84], [], M) o := by
  unfold mf_216 at h
  obtain ⟨d, rfl⟩ := mm_d1 (n := 4) hd
  show mm_Runs L xs (d + 1) 216 (0, [some (.ref 84), none], [], M) o
  refine mm_Runs.seq (l := [(0, .aload_n 0, 1)]) (S2 := (1, [some (.ref 84), none], [.ref 84], M)) (by decide +kernel) (hO := mm_own_216) rfl ?_
  refine mm_R_call (v := mm_wi) h hA (k2 := 191) (as := [.ref 84]) (r := []) rfl (fun _ => rfl) (fun q hq o ho => ms_191 (by omega) hq ho) (fun r1 M2 h => ?_)
  show mm_Runs L xs (d + 1) 216 (4, [some (.ref 84), none], [.int r1], M2) o
  refine mm_Runs.seq (l := [(4, .istore_n 1, 1), (5, .aload_n 0, 1), (6, .getfield 154, 3)]) (S2 := (9, [some (.ref 84), some (.int r1)], [.int (M2.1 84 7)], M2)) (by decide +kernel) (hO := mm_own_216) rfl ?_
  refine mm_R_zne (t := 27) rfl rfl rfl (fun hc => ?_) (fun hc => ?_)
  · replace h := mm_ip hc h
    refine mm_Runs.seq (l := [(12, .iload_n 1, 1), (13, .iconst 2, 1)]) (S2 := (14, [some (.ref 84), some (.int r1)], [.int (2 : Int32), .int r1], M2)) (by decide +kernel) (hO := mm_own_216) rfl ?_
    refine mm_R_ilt (t := 23) rfl rfl rfl (fun hc => ?_) (fun hc => ?_)
    · replace h := mm_ip hc h
      exact (ms_216_j23 hd h hA : mp_216_23 L xs (d + 1) r1 M2 o)
    · replace h := mm_iq hc h
      refine mm_Runs.seq (l := [(17, .iload_n 1, 1), (18, .bipush 8, 2)]) (S2 := (20, [some (.ref 84), some (.int r1)], [.int (8 : Int32), .int r1], M2)) (by decide +kernel) (hO := mm_own_216) rfl ?_
      refine mm_R_ile (t := 27) rfl rfl rfl (fun hc => ?_) (fun hc => ?_)
      · replace h := mm_ip hc h
        exact (ms_216_j23 hd h hA : mp_216_23 L xs (d + 1) r1 M2 o)
      · replace h := mm_iq hc h
        exact (ms_216_j27 hd h hA : mp_216_27 L xs (d + 1) r1 M2 o)
  · replace h := mm_iq hc h
    exact (ms_216_j27 hd h hA : mp_216_27 L xs (d + 1) r1 M2 o)
-- 217: PlainPacksModel.grown(I)I (depth 2)
theorem mm_own_217 : mm_own 217 = 12 := rfl
def mp_217_16 (L : Nat) (xs : Nat → Int32) (d : Nat) (v2 : Int32) (v3 : Int32) (M : mm_M) (o : mm_E) : Prop := ∀ z1 : Option Value, mm_Runs L xs d 217 (16, [some (.ref 84), z1, some (.int v2), some (.int v3)], [], M) o
def mp_217_53 (L : Nat) (xs : Nat → Int32) (d : Nat) (v2 : Int32) (M : mm_M) (o : mm_E) : Prop := ∀ z0 z1 z3 : Option Value, mm_Runs L xs d 217 (53, [z0, z1, some (.int v2), z3], [], M) o
set_option maxRecDepth 8000 in
set_option maxHeartbeats 4000000 in
theorem ms_217_b16 {L : Nat} {xs : Nat → Int32} {d : Nat} (hd : 2 ≤ d) {v2 : Int32} {v3 : Int32} {M : mm_M} {q : (((Int32 × Int32) ⊕ (Int32)) ⊕ Nat) × mm_M} {o : mm_E} (h : mf_217_b16 v2 v3 M = some q) (hA : mm_A (mm_K2 (fun s M o => mp_217_16 L xs (d) s.1 s.2 M o) (fun r M o => mp_217_53 L xs (d) r M o)) q o) : mp_217_16 L xs d v2 v3 M o := by
  unfold mf_217_b16 at h
  obtain ⟨d, rfl⟩ := mm_d1 (n := 1) hd
  intro z1
  show mm_Runs L xs (d + 1) 217 (16, [some (.ref 84), z1, some (.int v2), some (.int v3)], [], M) o
  refine mm_Runs.seq (l := [(16, .iload_n 3, 1), (17, .sipush 255, 3)]) (S2 := (20, [some (.ref 84), z1, some (.int v2), some (.int v3)], [.int (255 : Int32), .int v3], M)) (by decide +kernel) (hO := mm_own_217) rfl ?_
  refine mm_R_ine (t := 53) rfl rfl rfl (fun hc => ?_) (fun hc => ?_)
  · replace h := mm_ip hc h
    refine mm_Runs.seq (l := [(23, .aload_n 0, 1), (24, .getfield 154, 3)]) (S2 := (27, [some (.ref 84), z1, some (.int v2), some (.int v3)], [.int (M.1 84 7)], M)) (by decide +kernel) (hO := mm_own_217) rfl ?_
    refine mm_R_zne (t := 53) rfl rfl rfl (fun hc => ?_) (fun hc => ?_)
    · replace h := mm_ip hc h
      refine mm_Runs.seq (l := [(30, .aload_n 0, 1)]) (S2 := (31, [some (.ref 84), z1, some (.int v2), some (.int v3)], [.ref 84], M)) (by decide +kernel) (hO := mm_own_217) rfl ?_
      refine mm_R_call (v := mm_wi) h hA (k2 := 191) (as := [.ref 84]) (r := []) rfl (fun _ => rfl) (fun q hq o ho => ms_191 (by omega) hq ho) (fun r1 M2 h => ?_)
      show mm_Runs L xs (d + 1) 217 (34, [some (.ref 84), z1, some (.int v2), some (.int v3)], [.int r1], M2) o
      refine mm_Runs.seq (l := [(34, .istore_n 3, 1), (35, .iload_n 2, 1), (36, .iload_n 3, 1), (37, .iadd, 1), (38, .istore_n 2, 1), (39, .iload_n 2, 1), (40, .sipush 16384, 3)]) (S2 := (43, [some (.ref 84), (mm_no2 z1), some (.int (v2 + r1)), some (.int r1)], [.int (16384 : Int32), .int (v2 + r1)], M2)) (by decide +kernel) (hO := mm_own_217) rfl ?_
      refine mm_R_ile (t := 16) rfl rfl rfl (fun hc => ?_) (fun hc => ?_)
      · replace h := mm_ip hc h
        refine mm_Runs.seq (l := [(46, .aload_n 0, 1)]) (S2 := (47, [some (.ref 84), (mm_no2 z1), some (.int (v2 + r1)), some (.int r1)], [.ref 84], M2)) (by decide +kernel) (hO := mm_own_217) rfl ?_
        refine mm_R_call (v := mm_wv) h hA (k2 := 190) (as := [.ref 84]) (r := []) rfl (fun _ => rfl) (fun q hq o ho => ms_190 (by omega) hq ho) (fun _ M3 h => ?_)
        show mm_Runs L xs (d + 1) 217 (50, [some (.ref 84), (mm_no2 z1), some (.int (v2 + r1)), some (.int r1)], [], M3) o
        refine mm_Runs.seq (l := [(50, .goto (-34), 3)]) (S2 := (16, [some (.ref 84), (mm_no2 z1), some (.int (v2 + r1)), some (.int r1)], [], M3)) (by decide +kernel) (hO := mm_own_217) rfl ?_
        cases h
        exact (show mp_217_16 L xs (d + 1) (v2 + r1) r1 M3 o from hA) ((mm_no2 z1))
      · replace h := mm_iq hc h
        cases h
        exact (show mp_217_16 L xs (d + 1) (v2 + r1) r1 M2 o from hA) ((mm_no2 z1))
    · replace h := mm_iq hc h
      cases h
      exact (show mp_217_53 L xs (d + 1) v2 M o from hA) (some (.ref 84)) z1 (some (.int v3))
  · replace h := mm_iq hc h
    cases h
    exact (show mp_217_53 L xs (d + 1) v2 M o from hA) (some (.ref 84)) z1 (some (.int v3))
theorem ms_217_L16 {L : Nat} {xs : Nat → Int32} {d : Nat} (hd : 2 ≤ d) {v2 : Int32} {v3 : Int32} {β : Type} {K : β → mm_M → mm_E → Prop} {F : (Int32) → mm_M → mm_O β} {M : mm_M} {q : (β ⊕ Nat) × mm_M} {o : mm_E} (h : mm_B (mf_217_L16 (v2, v3) M) F = some q) (hA : mm_A K q o) (hx : ∀ (r : (Int32)) (M2 : mm_M), F r M2 = some q → (fun r M o => mp_217_53 L xs (d) r M o) r M2 o) : mp_217_16 L xs d v2 v3 M o := by
  unfold mf_217_L16 at h
  exact mm_R_loop (step := (fun s M => mf_217_b16 s.1 s.2 M)) (s := (v2, v3)) (M := M) (P := (fun s M o => mp_217_16 L xs (d) s.1 s.2 M o)) (X := (fun r M o => mp_217_53 L xs (d) r M o)) h hA (fun s M q hq hA => ms_217_b16 (v2 := s.1) (v3 := s.2) (M := M) (q := q) hd hq hA) hx
set_option maxRecDepth 8000 in
set_option maxHeartbeats 4000000 in
theorem ms_217 {L : Nat} {xs : Nat → Int32} {d : Nat} (hd : 2 ≤ d) {v1 : Int32} {M : mm_M} {q : (Int32 ⊕ Nat) × mm_M} {o : mm_E} (h : mf_217 v1 M = some q) (hA : mm_A (mm_Kr mm_wi) q o) : mm_Runs L xs d 217 (0, mm_ent (mm_ml 217) [.ref 84, .int v1], [], M) o := by
  unfold mf_217 at h
  obtain ⟨d, rfl⟩ := mm_d1 (n := 1) hd
  show mm_Runs L xs (d + 1) 217 (0, [some (.ref 84), some (.int v1), none, none], [], M) o
  refine mm_Runs.seq (l := [(0, .iload_n 1, 1), (1, .istore_n 2, 1), (2, .iload_n 1, 1), (3, .bipush 15, 2)]) (S2 := (5, [some (.ref 84), some (.int v1), some (.int v1), none], [.int (15 : Int32), .int v1], M)) (by decide +kernel) (hO := mm_own_217) rfl ?_
  refine mm_R_ine (t := 14) rfl rfl rfl (fun hc => ?_) (fun hc => ?_)
  · replace h := mm_ip hc h
    refine mm_Runs.seq (l := [(8, .sipush 255, 3), (11, .goto 4, 3), (15, .istore_n 3, 1)]) (S2 := (16, [some (.ref 84), some (.int v1), some (.int v1), some (.int (255 : Int32))], [], M)) (by decide +kernel) (hO := mm_own_217) rfl ?_
    have hp : mp_217_16 L xs (d + 1) v1 (255 : Int32) M o := by
      refine ms_217_L16 hd h hA (fun r2 M1 h => ?_)
      intro y3 y4 y5
      show mm_Runs L xs (d + 1) 217 (53, [y3, y4, some (.int r2), y5], [], M1) o
      refine mm_Runs.seq (l := [(53, .iload_n 2, 1)]) (S2 := (54, [y3, y4, some (.int r2), y5], [.int r2], M1)) (by decide +kernel) (hO := mm_own_217) rfl ?_
      cases h
      exact mm_R_reti rfl rfl hA
    exact hp (some (.int v1))
  · replace h := mm_iq hc h
    refine mm_Runs.seq (l := [(14, .iconst 0, 1), (15, .istore_n 3, 1)]) (S2 := (16, [some (.ref 84), some (.int v1), some (.int v1), some (.int (0 : Int32))], [], M)) (by decide +kernel) (hO := mm_own_217) rfl ?_
    have hp : mp_217_16 L xs (d + 1) v1 (0 : Int32) M o := by
      refine ms_217_L16 hd h hA (fun r7 M6 h => ?_)
      intro y8 y9 y10
      show mm_Runs L xs (d + 1) 217 (53, [y8, y9, some (.int r7), y10], [], M6) o
      refine mm_Runs.seq (l := [(53, .iload_n 2, 1)]) (S2 := (54, [y8, y9, some (.int r7), y10], [.int r7], M6)) (by decide +kernel) (hO := mm_own_217) rfl ?_
      cases h
      exact mm_R_reti rfl rfl hA
    exact hp (some (.int v1))
-- 218: PlainPacksModel.pieces(II)V (depth 3)
theorem mm_own_218 : mm_own 218 = 12 := rfl
def mp_218_2 (L : Nat) (xs : Nat → Int32) (d : Nat) (v1 : Int32) (v2 : Int32) (v3 : Int32) (M : mm_M) (o : mm_E) : Prop := ∀ z4 z5 z6 z7 z8 : Option Value, mm_Runs L xs d 218 (2, [some (.ref 84), some (.int v1), some (.int v2), some (.int v3), z4, z5, z6, z7, z8], [], M) o
def mp_218_123 (L : Nat) (xs : Nat → Int32) (d : Nat) (M : mm_M) (o : mm_E) : Prop := ∀ z0 z1 z2 z3 z4 z5 z6 z7 z8 : Option Value, mm_Runs L xs d 218 (123, [z0, z1, z2, z3, z4, z5, z6, z7, z8], [], M) o
def mp_218_83 (L : Nat) (xs : Nat → Int32) (d : Nat) (v1 : Int32) (v2 : Int32) (v3 : Int32) (v4 : Int32) (v6 : Int64) (M : mm_M) (o : mm_E) : Prop := ∀ z5 z7 z8 : Option Value, mm_Runs L xs d 218 (83, [some (.ref 84), some (.int v1), some (.int v2), some (.int v3), some (.int v4), z5, some (.long v6), z7, z8], [], M) o
def mp_218_87 (L : Nat) (xs : Nat → Int32) (d : Nat) (v1 : Int32) (v2 : Int32) (v3 : Int32) (v4 : Int32) (v6 : Int64) (M : mm_M) (o : mm_E) : Prop := ∀ z5 z7 z8 : Option Value, mm_Runs L xs d 218 (87, [some (.ref 84), some (.int v1), some (.int v2), some (.int v3), some (.int v4), z5, some (.long v6), z7, z8], [], M) o
def mp_218_109 (L : Nat) (xs : Nat → Int32) (d : Nat) (v1 : Int32) (v2 : Int32) (v3 : Int32) (v6 : Int64) (s0 : Int32) (M : mm_M) (o : mm_E) : Prop := ∀ z4 z5 z7 z8 : Option Value, mm_Runs L xs d 218 (109, [some (.ref 84), some (.int v1), some (.int v2), some (.int v3), z4, z5, some (.long v6), z7, z8], [.int s0], M) o
set_option maxRecDepth 8000 in
set_option maxHeartbeats 4000000 in
theorem ms_218_j109 {L : Nat} {xs : Nat → Int32} {d : Nat} (hd : 3 ≤ d) {v1 : Int32} {v2 : Int32} {v3 : Int32} {v6 : Int64} {s0 : Int32} {M : mm_M} {q : (((Int32) ⊕ (Unit)) ⊕ Nat) × mm_M} {o : mm_E} (h : mf_218_j109 v1 v2 v3 v6 s0 M = some q) (hA : mm_A (mm_K2 (fun s M o => mp_218_2 L xs (d) v1 v2 s M o) (fun r M o => mp_218_123 L xs (d) M o)) q o) : mp_218_109 L xs d v1 v2 v3 v6 s0 M o := by
  unfold mf_218_j109 at h
  obtain ⟨d, rfl⟩ := mm_d1 (n := 2) hd
  intro z4 z5 z7 z8
  show mm_Runs L xs (d + 1) 218 (109, [some (.ref 84), some (.int v1), some (.int v2), some (.int v3), z4, z5, some (.long v6), z7, z8], [.int s0], M) o
  refine mm_Runs.seq (l := [(109, .istore 8, 2), (111, .aload_n 0, 1), (112, .iload 8, 2), (114, .lload 6, 2), (116, .iload_n 2, 1)]) (S2 := (117, [some (.ref 84), some (.int v1), some (.int v2), some (.int v3), z4, z5, some (.long v6), (mm_no2 z7), some (.int s0)], [.int v2, .long v6, .int s0, .ref 84], M)) (by decide +kernel) (hO := mm_own_218) rfl ?_
  refine mm_R_call (v := mm_wv) h hA (k2 := 196) (as := [.ref 84, .int s0, .long v6, .int v2]) (r := []) rfl (fun _ => rfl) (fun q hq o ho => ms_196 (by omega) hq ho) (fun _ M1 h => ?_)
  show mm_Runs L xs (d + 1) 218 (120, [some (.ref 84), some (.int v1), some (.int v2), some (.int v3), z4, z5, some (.long v6), (mm_no2 z7), some (.int s0)], [], M1) o
  refine mm_Runs.seq (l := [(120, .goto (-118), 3)]) (S2 := (2, [some (.ref 84), some (.int v1), some (.int v2), some (.int v3), z4, z5, some (.long v6), (mm_no2 z7), some (.int s0)], [], M1)) (by decide +kernel) (hO := mm_own_218) rfl ?_
  cases h
  exact (show mp_218_2 L xs (d + 1) v1 v2 v3 M1 o from hA) z4 z5 (some (.long v6)) ((mm_no2 z7)) (some (.int s0))
set_option maxRecDepth 8000 in
set_option maxHeartbeats 4000000 in
theorem ms_218_j87 {L : Nat} {xs : Nat → Int32} {d : Nat} (hd : 3 ≤ d) {v1 : Int32} {v2 : Int32} {v3 : Int32} {v4 : Int32} {v6 : Int64} {M : mm_M} {q : (((Int32) ⊕ (Unit)) ⊕ Nat) × mm_M} {o : mm_E} (h : mf_218_j87 v1 v2 v3 v4 v6 M = some q) (hA : mm_A (mm_K2 (fun s M o => mp_218_2 L xs (d) v1 v2 s M o) (fun r M o => mp_218_123 L xs (d) M o)) q o) : mp_218_87 L xs d v1 v2 v3 v4 v6 M o := by
  unfold mf_218_j87 at h
  obtain ⟨d, rfl⟩ := mm_d1 (n := 2) hd
  intro z5 z7 z8
  show mm_Runs L xs (d + 1) 218 (87, [some (.ref 84), some (.int v1), some (.int v2), some (.int v3), some (.int v4), z5, some (.long v6), z7, z8], [], M) o
  refine mm_Runs.seq (l := [(87, .aload_n 0, 1), (88, .getfield 154, 3)]) (S2 := (91, [some (.ref 84), some (.int v1), some (.int v2), some (.int v3), some (.int v4), z5, some (.long v6), z7, z8], [.int (M.1 84 7)], M)) (by decide +kernel) (hO := mm_own_218) rfl ?_
  refine mm_R_zeq (t := 98) rfl rfl rfl (fun hc => ?_) (fun hc => ?_)
  · replace h := mm_ip hc h
    refine mm_Runs.seq (l := [(98, .iconst 4, 1), (99, .aload_n 0, 1), (100, .iload 4, 2), (102, .bipush 15, 2), (104, .iand, 1)]) (S2 := (105, [some (.ref 84), some (.int v1), some (.int v2), some (.int v3), some (.int v4), z5, some (.long v6), z7, z8], [.int (v4 &&& (15 : Int32)), .ref 84, .int (4 : Int32)], M)) (by decide +kernel) (hO := mm_own_218) rfl ?_
    refine mm_R_call (v := mm_wi) h hA (k2 := 217) (as := [.ref 84, .int (v4 &&& (15 : Int32))]) (r := [.int (4 : Int32)]) rfl (fun _ => rfl) (fun q hq o ho => ms_217 (by omega) hq ho) (fun r1 M2 h => ?_)
    show mm_Runs L xs (d + 1) 218 (108, [some (.ref 84), some (.int v1), some (.int v2), some (.int v3), some (.int v4), z5, some (.long v6), z7, z8], [.int r1, .int (4 : Int32)], M2) o
    refine mm_Runs.seq (l := [(108, .iadd, 1)]) (S2 := (109, [some (.ref 84), some (.int v1), some (.int v2), some (.int v3), some (.int v4), z5, some (.long v6), z7, z8], [.int ((4 : Int32) + r1)], M2)) (by decide +kernel) (hO := mm_own_218) rfl ?_
    exact (ms_218_j109 hd h hA : mp_218_109 L xs (d + 1) v1 v2 v3 v6 ((4 : Int32) + r1) M2 o) (some (.int v4)) z5 z7 z8
  · replace h := mm_iq hc h
    refine mm_Runs.seq (l := [(94, .iconst 0, 1), (95, .goto 14, 3)]) (S2 := (109, [some (.ref 84), some (.int v1), some (.int v2), some (.int v3), some (.int v4), z5, some (.long v6), z7, z8], [.int (0 : Int32)], M)) (by decide +kernel) (hO := mm_own_218) rfl ?_
    exact (ms_218_j109 hd h hA : mp_218_109 L xs (d + 1) v1 v2 v3 v6 (0 : Int32) M o) (some (.int v4)) z5 z7 z8
set_option maxRecDepth 8000 in
set_option maxHeartbeats 4000000 in
theorem ms_218_j83 {L : Nat} {xs : Nat → Int32} {d : Nat} (hd : 3 ≤ d) {v1 : Int32} {v2 : Int32} {v3 : Int32} {v4 : Int32} {v6 : Int64} {M : mm_M} {q : (((Int32) ⊕ (Unit)) ⊕ Nat) × mm_M} {o : mm_E} (h : mf_218_j83 v1 v2 v3 v4 v6 M = some q) (hA : mm_A (mm_K2 (fun s M o => mp_218_2 L xs (d) v1 v2 s M o) (fun r M o => mp_218_123 L xs (d) M o)) q o) : mp_218_83 L xs d v1 v2 v3 v4 v6 M o := by
  unfold mf_218_j83 at h
  obtain ⟨d, rfl⟩ := mm_d1 (n := 2) hd
  intro z5 z7 z8
  show mm_Runs L xs (d + 1) 218 (83, [some (.ref 84), some (.int v1), some (.int v2), some (.int v3), some (.int v4), z5, some (.long v6), z7, z8], [], M) o
  refine mm_Runs.seq (l := [(83, .aload_n 0, 1)]) (S2 := (84, [some (.ref 84), some (.int v1), some (.int v2), some (.int v3), some (.int v4), z5, some (.long v6), z7, z8], [.ref 84], M)) (by decide +kernel) (hO := mm_own_218) rfl ?_
  refine mm_R_call (v := mm_wv) h hA (k2 := 190) (as := [.ref 84]) (r := []) rfl (fun _ => rfl) (fun q hq o ho => ms_190 (by omega) hq ho) (fun _ M1 h => ?_)
  show mm_Runs L xs (d + 1) 218 (87, [some (.ref 84), some (.int v1), some (.int v2), some (.int v3), some (.int v4), z5, some (.long v6), z7, z8], [], M1) o
  exact (ms_218_j87 hd h hA : mp_218_87 L xs (d + 1) v1 v2 v3 v4 v6 M1 o) z5 z7 z8
set_option maxRecDepth 8000 in
set_option maxHeartbeats 4000000 in
theorem ms_218_b2 {L : Nat} {xs : Nat → Int32} {d : Nat} (hd : 3 ≤ d) {v1 : Int32} {v2 : Int32} {v3 : Int32} {M : mm_M} {q : (((Int32) ⊕ (Unit)) ⊕ Nat) × mm_M} {o : mm_E} (h : mf_218_b2 v1 v2 v3 M = some q) (hA : mm_A (mm_K2 (fun s M o => mp_218_2 L xs (d) v1 v2 s M o) (fun r M o => mp_218_123 L xs (d) M o)) q o) : mp_218_2 L xs d v1 v2 v3 M o := by
  unfold mf_218_b2 at h
  obtain ⟨d, rfl⟩ := mm_d1 (n := 2) hd
  intro z4 z5 z6 z7 z8
  show mm_Runs L xs (d + 1) 218 (2, [some (.ref 84), some (.int v1), some (.int v2), some (.int v3), z4, z5, z6, z7, z8], [], M) o
  refine mm_Runs.seq (l := [(2, .iload_n 3, 1)]) (S2 := (3, [some (.ref 84), some (.int v1), some (.int v2), some (.int v3), z4, z5, z6, z7, z8], [.int v3], M)) (by decide +kernel) (hO := mm_own_218) rfl ?_
  refine mm_R_zeq (t := 123) rfl rfl rfl (fun hc => ?_) (fun hc => ?_)
  · replace h := mm_ip hc h
    cases h
    exact (show mp_218_123 L xs (d + 1) M o from hA) (some (.ref 84)) (some (.int v1)) (some (.int v2)) (some (.int v3)) z4 z5 z6 z7 z8
  · replace h := mm_iq hc h
    refine mm_Runs.seq (l := [(6, .aload_n 0, 1), (7, .getfield 154, 3)]) (S2 := (10, [some (.ref 84), some (.int v1), some (.int v2), some (.int v3), z4, z5, z6, z7, z8], [.int (M.1 84 7)], M)) (by decide +kernel) (hO := mm_own_218) rfl ?_
    refine mm_R_zne (t := 123) rfl rfl rfl (fun hc => ?_) (fun hc => ?_)
    · replace h := mm_ip hc h
      refine mm_Runs.seq (l := [(13, .aload_n 0, 1)]) (S2 := (14, [some (.ref 84), some (.int v1), some (.int v2), some (.int v3), z4, z5, z6, z7, z8], [.ref 84], M)) (by decide +kernel) (hO := mm_own_218) rfl ?_
      refine mm_R_call (v := mm_wi) h hA (k2 := 191) (as := [.ref 84]) (r := []) rfl (fun _ => rfl) (fun q hq o ho => ms_191 (by omega) hq ho) (fun r1 M2 h => ?_)
      show mm_Runs L xs (d + 1) 218 (17, [some (.ref 84), some (.int v1), some (.int v2), some (.int v3), z4, z5, z6, z7, z8], [.int r1], M2) o
      refine mm_Runs.seq (l := [(17, .istore 4, 2), (19, .aload_n 0, 1), (20, .iload 4, 2), (22, .iconst 4, 1), (23, .ishr, 1)]) (S2 := (24, [some (.ref 84), some (.int v1), some (.int v2), some (.int v3), some (.int r1), z5, z6, z7, z8], [.int (mm_shr r1 (4 : Int32)), .ref 84], M2)) (by decide +kernel) (hO := mm_own_218) rfl ?_
      refine mm_R_call (v := mm_wi) h hA (k2 := 217) (as := [.ref 84, .int (mm_shr r1 (4 : Int32))]) (r := []) rfl (fun _ => rfl) (fun q hq o ho => ms_217 (by omega) hq ho) (fun r3 M4 h => ?_)
      show mm_Runs L xs (d + 1) 218 (27, [some (.ref 84), some (.int v1), some (.int v2), some (.int v3), some (.int r1), z5, z6, z7, z8], [.int r3], M4) o
      refine mm_Runs.seq (l := [(27, .istore 5, 2), (29, .aload_n 0, 1), (30, .iload 5, 2), (32, .i2l, 1)]) (S2 := (33, [some (.ref 84), some (.int v1), some (.int v2), some (.int v3), some (.int r1), some (.int r3), z6, z7, z8], [.long r3.toInt64, .ref 84], M4)) (by decide +kernel) (hO := mm_own_218) rfl ?_
      refine mm_R_call (v := mm_wv) h hA (k2 := 195) (as := [.ref 84, .long r3.toInt64]) (r := []) rfl (fun _ => rfl) (fun q hq o ho => ms_195 (by omega) hq ho) (fun _ M5 h => ?_)
      show mm_Runs L xs (d + 1) 218 (36, [some (.ref 84), some (.int v1), some (.int v2), some (.int v3), some (.int r1), some (.int r3), z6, z7, z8], [], M5) o
      refine mm_Runs.seq (l := [(36, .aload_n 0, 1), (37, .getfield 101, 3), (40, .iload_n 1, 1)]) (S2 := (41, [some (.ref 84), some (.int v1), some (.int v2), some (.int v3), some (.int r1), some (.int r3), z6, z7, z8], [.int v1, .int (M5.1 84 5)], M5)) (by decide +kernel) (hO := mm_own_218) rfl ?_
      refine mm_R_ine (t := 49) rfl rfl rfl (fun hc => ?_) (fun hc => ?_)
      · replace h := mm_ip hc h
        refine mm_Runs.seq (l := [(44, .iconst 0, 1), (45, .istore_n 3, 1), (46, .goto 74, 3), (120, .goto (-118), 3)]) (S2 := (2, [some (.ref 84), some (.int v1), some (.int v2), some (.int (0 : Int32)), some (.int r1), some (.int r3), z6, z7, z8], [], M5)) (by decide +kernel) (hO := mm_own_218) rfl ?_
        cases h
        exact (show mp_218_2 L xs (d + 1) v1 v2 (0 : Int32) M5 o from hA) (some (.int r1)) (some (.int r3)) z6 z7 z8
      · replace h := mm_iq hc h
        refine mm_Runs.seq (l := [(49, .aload_n 0, 1), (50, .iconst 2, 1)]) (S2 := (51, [some (.ref 84), some (.int v1), some (.int v2), some (.int v3), some (.int r1), some (.int r3), z6, z7, z8], [.int (2 : Int32), .ref 84], M5)) (by decide +kernel) (hO := mm_own_218) rfl ?_
        refine mm_R_call (v := mm_wl) h hA (k2 := 193) (as := [.ref 84, .int (2 : Int32)]) (r := []) rfl (fun _ => rfl) (fun q hq o ho => ms_193 (by omega) hq ho) (fun r6 M7 h => ?_)
        show mm_Runs L xs (d + 1) 218 (54, [some (.ref 84), some (.int v1), some (.int v2), some (.int v3), some (.int r1), some (.int r3), z6, z7, z8], [.long r6], M7) o
        refine mm_Runs.seq (l := [(54, .lstore 6, 2), (56, .aload_n 0, 1), (57, .getfield 154, 3)]) (S2 := (60, [some (.ref 84), some (.int v1), some (.int v2), some (.int v3), some (.int r1), some (.int r3), some (.long r6), none, z8], [.int (M7.1 84 7)], M7)) (by decide +kernel) (hO := mm_own_218) rfl ?_
        refine mm_R_zne (t := 87) rfl rfl rfl (fun hc => ?_) (fun hc => ?_)
        · replace h := mm_ip hc h
          refine mm_Runs.seq (l := [(63, .lload 6, 2), (65, .lconst 0, 1)]) (S2 := (66, [some (.ref 84), some (.int v1), some (.int v2), some (.int v3), some (.int r1), some (.int r3), some (.long r6), none, z8], [.long (0 : Int64), .long r6], M7)) (by decide +kernel) (hO := mm_own_218) rfl ?_
          refine mm_R_leq (t := 83) rfl rfl rfl rfl (fun hc => ?_) (fun hc => ?_)
          · replace h := mm_ip hc h
            exact (ms_218_j83 hd h hA : mp_218_83 L xs (d + 1) v1 v2 v3 r1 r6 M7 o) (some (.int r3)) none z8
          · replace h := mm_iq hc h
            refine mm_Runs.seq (l := [(70, .lload 6, 2), (72, .aload_n 0, 1), (73, .getfield 98, 3), (76, .iload_n 2, 1), (77, .isub, 1), (78, .i2l, 1)]) (S2 := (79, [some (.ref 84), some (.int v1), some (.int v2), some (.int v3), some (.int r1), some (.int r3), some (.long r6), none, z8], [.long ((M7.1 84 4) - v2).toInt64, .long r6], M7)) (by decide +kernel) (hO := mm_own_218) rfl ?_
            refine mm_R_lle (t := 87) rfl rfl rfl rfl (fun hc => ?_) (fun hc => ?_)
            · replace h := mm_ip hc h
              exact (ms_218_j83 hd h hA : mp_218_83 L xs (d + 1) v1 v2 v3 r1 r6 M7 o) (some (.int r3)) none z8
            · replace h := mm_iq hc h
              exact (ms_218_j87 hd h hA : mp_218_87 L xs (d + 1) v1 v2 v3 r1 r6 M7 o) (some (.int r3)) none z8
        · replace h := mm_iq hc h
          exact (ms_218_j87 hd h hA : mp_218_87 L xs (d + 1) v1 v2 v3 r1 r6 M7 o) (some (.int r3)) none z8
    · replace h := mm_iq hc h
      cases h
      exact (show mp_218_123 L xs (d + 1) M o from hA) (some (.ref 84)) (some (.int v1)) (some (.int v2)) (some (.int v3)) z4 z5 z6 z7 z8
theorem ms_218_L2 {L : Nat} {xs : Nat → Int32} {d : Nat} (hd : 3 ≤ d) {v1 : Int32} {v2 : Int32} {v3 : Int32} {β : Type} {K : β → mm_M → mm_E → Prop} {F : (Unit) → mm_M → mm_O β} {M : mm_M} {q : (β ⊕ Nat) × mm_M} {o : mm_E} (h : mm_B (mf_218_L2 v1 v2 v3 M) F = some q) (hA : mm_A K q o) (hx : ∀ (r : (Unit)) (M2 : mm_M), F r M2 = some q → (fun r M o => mp_218_123 L xs (d) M o) r M2 o) : mp_218_2 L xs d v1 v2 v3 M o := by
  unfold mf_218_L2 at h
  exact mm_R_loop (step := (fun s M => mf_218_b2 v1 v2 s M)) (s := v3) (M := M) (P := (fun s M o => mp_218_2 L xs (d) v1 v2 s M o)) (X := (fun r M o => mp_218_123 L xs (d) M o)) h hA (fun s M q hq hA => ms_218_b2 (v1 := v1) (v2 := v2) (v3 := s) (M := M) (q := q) hd hq hA) hx
set_option maxRecDepth 8000 in
set_option maxHeartbeats 4000000 in
theorem ms_218 {L : Nat} {xs : Nat → Int32} {d : Nat} (hd : 3 ≤ d) {v1 : Int32} {v2 : Int32} {M : mm_M} {q : (Unit ⊕ Nat) × mm_M} {o : mm_E} (h : mf_218 v1 v2 M = some q) (hA : mm_A (mm_Kr mm_wv) q o) : mm_Runs L xs d 218 (0, mm_ent (mm_ml 218) [.ref 84, .int v1, .int v2], [], M) o := by
  unfold mf_218 at h
  obtain ⟨d, rfl⟩ := mm_d1 (n := 2) hd
  show mm_Runs L xs (d + 1) 218 (0, [some (.ref 84), some (.int v1), some (.int v2), none, none, none, none, none, none], [], M) o
  refine mm_Runs.seq (l := [(0, .iconst 1, 1), (1, .istore_n 3, 1)]) (S2 := (2, [some (.ref 84), some (.int v1), some (.int v2), some (.int (1 : Int32)), none, none, none, none, none], [], M)) (by decide +kernel) (hO := mm_own_218) rfl ?_
  have hp : mp_218_2 L xs (d + 1) v1 v2 (1 : Int32) M o := by
    refine ms_218_L2 hd h hA (fun r2 M1 h => ?_)
    intro y3 y4 y5 y6 y7 y8 y9 y10 y11
    show mm_Runs L xs (d + 1) 218 (123, [y3, y4, y5, y6, y7, y8, y9, y10, y11], [], M1) o
    cases h
    exact mm_R_retv rfl rfl hA
  exact hp none none none none none
