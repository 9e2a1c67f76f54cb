/-! MEANINGS ARE SOUND 32 -/
-- 262: PlainPacksModel.stands(III)Z (depth 0)
theorem mm_own_262 : mm_own 262 = 12 := rfl
def mp_262_20 (L : Nat) (xs : Nat → Int32) (d : Nat) (v1 : Int32) (v2 : Int32) (v3 : Int32) (v4 : Int32) (v5 : Int32) (M : mm_M) (o : mm_E) : Prop := mm_Runs L xs d 262 (20, [some (.ref 84), some (.int v1), some (.int v2), some (.int v3), some (.int v4), some (.int v5)], [], M) o
def mp_262_65 (L : Nat) (xs : Nat → Int32) (d : Nat) (v4 : Int32) (M : mm_M) (o : mm_E) : Prop := ∀ z0 z1 z2 z3 z5 : Option Value, mm_Runs L xs d 262 (65, [z0, z1, z2, z3, some (.int v4), z5], [], M) o
set_option maxRecDepth 8000 in
set_option maxHeartbeats 4000000 in
theorem ms_262_b20 {L : Nat} {xs : Nat → Int32} {d : Nat} (hd : 0 ≤ d) {v1 : Int32} {v2 : Int32} {v3 : Int32} {v4 : Int32} {v5 : Int32} {M : mm_M} {q : (((Int32 × Int32) ⊕ (Int32)) ⊕ Nat) × mm_M} {o : mm_E} (h : mf_262_b20 v1 v2 v3 v4 v5 M = some q) (hA : mm_A (mm_K2 (fun s M o => mp_262_20 L xs (d) v1 v2 v3 s.1 s.2 M o) (fun r M o => mp_262_65 L xs (d) r M o)) q o) : mp_262_20 L xs d v1 v2 v3 v4 v5 M o := by
  unfold mf_262_b20 at h
  show mm_Runs L xs (d) 262 (20, [some (.ref 84), some (.int v1), some (.int v2), some (.int v3), some (.int v4), some (.int v5)], [], M) o
  refine mm_Runs.seq (l := [(20, .iload 5, 2), (22, .iload_n 2, 1)]) (S2 := (23, [some (.ref 84), some (.int v1), some (.int v2), some (.int v3), some (.int v4), some (.int v5)], [.int v2, .int v5], M)) (by decide +kernel) (hO := mm_own_262) rfl ?_
  refine mm_R_ige (t := 65) rfl rfl rfl (fun hc => ?_) (fun hc => ?_)
  · replace h := mm_ip hc h
    refine mm_Runs.seq (l := [(26, .iload 4, 2)]) (S2 := (28, [some (.ref 84), some (.int v1), some (.int v2), some (.int v3), some (.int v4), some (.int v5)], [.int v4], M)) (by decide +kernel) (hO := mm_own_262) rfl ?_
    refine mm_R_zeq (t := 65) rfl rfl rfl (fun hc => ?_) (fun hc => ?_)
    · replace h := mm_ip hc h
      cases h
      exact (show mp_262_65 L xs (d) v4 M o from hA) (some (.ref 84)) (some (.int v1)) (some (.int v2)) (some (.int v3)) (some (.int v5))
    · replace h := mm_iq hc h
      refine mm_Runs.seq (l := [(31, .aload_n 0, 1), (32, .getfield 7, 3), (35, .iload_n 1, 1), (36, .iload 5, 2), (38, .iadd, 1)]) (S2 := (39, [some (.ref 84), some (.int v1), some (.int v2), some (.int v3), some (.int v4), some (.int v5)], [.int (v1 + v5), .ref 85], M)) (by decide +kernel) (hO := mm_own_262) rfl ?_
      obtain ⟨hb, h⟩ := mm_gd h
      refine mm_R_iald rfl rfl hb ?_
      refine mm_Runs.seq (l := [(40, .aload_n 0, 1), (41, .getfield 7, 3), (44, .iload_n 3, 1), (45, .iload 5, 2), (47, .iadd, 1)]) (S2 := (48, [some (.ref 84), some (.int v1), some (.int v2), some (.int v3), some (.int v4), some (.int v5)], [.int (v3 + v5), .ref 85, .int (M.1 85 (v1 + v5).toNatClampNeg)], M)) (by decide +kernel) (hO := mm_own_262) rfl ?_
      obtain ⟨hb, h⟩ := mm_gd h
      refine mm_R_iald rfl rfl hb ?_
      refine mm_R_ine (t := 56) rfl rfl rfl (fun hc => ?_) (fun hc => ?_)
      · replace h := mm_ip hc h
        refine mm_Runs.seq (l := [(52, .iconst 1, 1), (53, .goto 4, 3), (57, .istore 4, 2), (59, .iinc 5 1, 3), (62, .goto (-42), 3)]) (S2 := (20, [some (.ref 84), some (.int v1), some (.int v2), some (.int v3), some (.int (1 : Int32)), some (.int (v5 + (1 : Int32)))], [], M)) (by decide +kernel) (hO := mm_own_262) rfl ?_
        cases h
        exact (show mp_262_20 L xs (d) v1 v2 v3 (1 : Int32) (v5 + (1 : Int32)) M o from hA)
      · replace h := mm_iq hc h
        refine mm_Runs.seq (l := [(56, .iconst 0, 1), (57, .istore 4, 2), (59, .iinc 5 1, 3), (62, .goto (-42), 3)]) (S2 := (20, [some (.ref 84), some (.int v1), some (.int v2), some (.int v3), some (.int (0 : Int32)), some (.int (v5 + (1 : Int32)))], [], M)) (by decide +kernel) (hO := mm_own_262) rfl ?_
        cases h
        exact (show mp_262_20 L xs (d) v1 v2 v3 (0 : Int32) (v5 + (1 : Int32)) M o from hA)
  · replace h := mm_iq hc h
    cases h
    exact (show mp_262_65 L xs (d) v4 M o from hA) (some (.ref 84)) (some (.int v1)) (some (.int v2)) (some (.int v3)) (some (.int v5))
theorem ms_262_L20 {L : Nat} {xs : Nat → Int32} {d : Nat} (hd : 0 ≤ d) {v1 : Int32} {v2 : Int32} {v3 : Int32} {v4 : Int32} {v5 : Int32} {β : Type} {K : β → mm_M → mm_E → Prop} {F : (Int32) → mm_M → mm_O β} {M : mm_M} {q : (β ⊕ Nat) × mm_M} {o : mm_E} (h : mm_B (mf_262_L20 v1 v2 v3 (v4, v5) M) F = some q) (hA : mm_A K q o) (hx : ∀ (r : (Int32)) (M2 : mm_M), F r M2 = some q → (fun r M o => mp_262_65 L xs (d) r M o) r M2 o) : mp_262_20 L xs d v1 v2 v3 v4 v5 M o := by
  unfold mf_262_L20 at h
  exact mm_R_loop (step := (fun s M => mf_262_b20 v1 v2 v3 s.1 s.2 M)) (s := (v4, v5)) (M := M) (P := (fun s M o => mp_262_20 L xs (d) v1 v2 v3 s.1 s.2 M o)) (X := (fun r M o => mp_262_65 L xs (d) r M o)) h hA (fun s M q hq hA => ms_262_b20 (v1 := v1) (v2 := v2) (v3 := v3) (v4 := s.1) (v5 := s.2) (M := M) (q := q) hd hq hA) hx
set_option maxRecDepth 8000 in
set_option maxHeartbeats 4000000 in
theorem ms_262 {L : Nat} {xs : Nat → Int32} {d : Nat} (hd : 0 ≤ d) {v1 : Int32} {v2 : Int32} {v3 : Int32} {M : mm_M} {q : (Int32 ⊕ Nat) × mm_M} {o : mm_E} (h : mf_262 v1 v2 v3 M = some q) (hA : mm_A (mm_Kr mm_wi) q o) : mm_Runs L xs d 262 (0, mm_ent (mm_ml 262) [.ref 84, .int v1, .int v2, .int v3], [], M) o := by
  unfold mf_262 at h
  show mm_Runs L xs (d) 262 (0, [some (.ref 84), some (.int v1), some (.int v2), some (.int v3), none, none], [], M) o
  refine mm_Runs.seq (l := [(0, .iload_n 3, 1), (1, .iload_n 2, 1), (2, .iadd, 1), (3, .aload_n 0, 1), (4, .getfield 91, 3)]) (S2 := (7, [some (.ref 84), some (.int v1), some (.int v2), some (.int v3), none, none], [.int (M.1 84 2), .int (v3 + v2)], M)) (by decide +kernel) (hO := mm_own_262) rfl ?_
  refine mm_R_igt (t := 14) rfl rfl rfl (fun hc => ?_) (fun hc => ?_)
  · replace h := mm_ip hc h
    refine mm_Runs.seq (l := [(14, .iconst 0, 1), (15, .istore 4, 2), (17, .iconst 0, 1), (18, .istore 5, 2)]) (S2 := (20, [some (.ref 84), some (.int v1), some (.int v2), some (.int v3), some (.int (0 : Int32)), some (.int (0 : Int32))], [], M)) (by decide +kernel) (hO := mm_own_262) rfl ?_
    have hp : mp_262_20 L xs (d) v1 v2 v3 (0 : Int32) (0 : Int32) M o := by
      refine ms_262_L20 hd h hA (fun r2 M1 h => ?_)
      intro y3 y4 y5 y6 y7
      show mm_Runs L xs (d) 262 (65, [y3, y4, y5, y6, some (.int r2), y7], [], M1) o
      refine mm_Runs.seq (l := [(65, .iload 4, 2)]) (S2 := (67, [y3, y4, y5, y6, some (.int r2), y7], [.int r2], M1)) (by decide +kernel) (hO := mm_own_262) rfl ?_
      obtain ⟨hb, h⟩ := mm_gd h
      cases h
      exact mm_R_retb rfl rfl hb hA
    exact hp
  · replace h := mm_iq hc h
    refine mm_Runs.seq (l := [(10, .iconst 1, 1), (11, .goto 4, 3), (15, .istore 4, 2), (17, .iconst 0, 1), (18, .istore 5, 2)]) (S2 := (20, [some (.ref 84), some (.int v1), some (.int v2), some (.int v3), some (.int (1 : Int32)), some (.int (0 : Int32))], [], M)) (by decide +kernel) (hO := mm_own_262) rfl ?_
    have hp : mp_262_20 L xs (d) v1 v2 v3 (1 : Int32) (0 : Int32) M o := by
      refine ms_262_L20 hd h hA (fun r9 M8 h => ?_)
      intro y10 y11 y12 y13 y14
      show mm_Runs L xs (d) 262 (65, [y10, y11, y12, y13, some (.int r9), y14], [], M8) o
      refine mm_Runs.seq (l := [(65, .iload 4, 2)]) (S2 := (67, [y10, y11, y12, y13, some (.int r9), y14], [.int r9], M8)) (by decide +kernel) (hO := mm_own_262) rfl ?_
      obtain ⟨hb, h⟩ := mm_gd h
      cases h
      exact mm_R_retb rfl rfl hb hA
    exact hp
-- 261: PlainPacksModel.packWords(IZ)V (depth 4)
theorem mm_own_261 : mm_own 261 = 12 := rfl
def mp_261_32 (L : Nat) (xs : Nat → Int32) (d : Nat) (v2 : Int32) (v3 : Int32) (v4 : Int32) (v5 : Int32) (v6 : Int32) (v7 : Int32) (v8 : Int32) (M : mm_M) (o : mm_E) : Prop := ∀ z1 z9 z10 z11 : Option Value, mm_Runs L xs d 261 (32, [some (.ref 84), z1, some (.int v2), some (.int v3), some (.int v4), some (.int v5), some (.int v6), some (.int v7), some (.int v8), z9, z10, z11], [], M) o
def mp_261_219 (L : Nat) (xs : Nat → Int32) (d : Nat) (v2 : Int32) (v3 : Int32) (v4 : Int32) (M : mm_M) (o : mm_E) : Prop := ∀ z1 z5 z6 z7 z8 z9 z10 z11 : Option Value, mm_Runs L xs d 261 (219, [some (.ref 84), z1, some (.int v2), some (.int v3), some (.int v4), z5, z6, z7, z8, z9, z10, z11], [], M) o
def mp_261_77 (L : Nat) (xs : Nat → Int32) (d : Nat) (v2 : Int32) (v3 : Int32) (v4 : Int32) (v5 : Int32) (v8 : Int32) (M : mm_M) (o : mm_E) : Prop := ∀ z1 z6 z7 z9 z10 z11 : Option Value, mm_Runs L xs d 261 (77, [some (.ref 84), z1, some (.int v2), some (.int v3), some (.int v4), some (.int v5), z6, z7, some (.int v8), z9, z10, z11], [], M) o
def mp_261_94 (L : Nat) (xs : Nat → Int32) (d : Nat) (v2 : Int32) (v3 : Int32) (v4 : Int32) (v5 : Int32) (v8 : Int32) (v9 : Int32) (v10 : Int32) (v11 : Int32) (M : mm_M) (o : mm_E) : Prop := ∀ z1 z6 z7 : Option Value, mm_Runs L xs d 261 (94, [some (.ref 84), z1, some (.int v2), some (.int v3), some (.int v4), some (.int v5), z6, z7, some (.int v8), some (.int v9), some (.int v10), some (.int v11)], [], M) o
def mp_261_155 (L : Nat) (xs : Nat → Int32) (d : Nat) (v2 : Int32) (v3 : Int32) (v4 : Int32) (v5 : Int32) (v8 : Int32) (v9 : Int32) (v10 : Int32) (M : mm_M) (o : mm_E) : Prop := ∀ z1 z6 z7 z11 : Option Value, mm_Runs L xs d 261 (155, [some (.ref 84), z1, some (.int v2), some (.int v3), some (.int v4), some (.int v5), z6, z7, some (.int v8), some (.int v9), some (.int v10), z11], [], M) o
set_option maxRecDepth 8000 in
set_option maxHeartbeats 4000000 in
theorem ms_261_b94 {L : Nat} {xs : Nat → Int32} {d : Nat} (hd : 4 ≤ d) {v2 : Int32} {v3 : Int32} {v4 : Int32} {v5 : Int32} {v8 : Int32} {v9 : Int32} {v10 : Int32} {v11 : Int32} {M : mm_M} {q : (((Int32 × Int32 × Int32) ⊕ (Int32 × Int32)) ⊕ Nat) × mm_M} {o : mm_E} (h : mf_261_b94 v2 v3 v4 v5 v8 v9 v10 v11 M = some q) (hA : mm_A (mm_K2 (fun s M o => mp_261_94 L xs (d) v2 v3 v4 v5 v8 s.1 s.2.1 s.2.2 M o) (fun r M o => mp_261_155 L xs (d) v2 v3 v4 v5 v8 r.1 r.2 M o)) q o) : mp_261_94 L xs d v2 v3 v4 v5 v8 v9 v10 v11 M o := by
  unfold mf_261_b94 at h
  obtain ⟨d, rfl⟩ := mm_d1 (n := 3) hd
  intro z1 z6 z7
  show mm_Runs L xs (d + 1) 261 (94, [some (.ref 84), z1, some (.int v2), some (.int v3), some (.int v4), some (.int v5), z6, z7, some (.int v8), some (.int v9), some (.int v10), some (.int v11)], [], M) o
  refine mm_Runs.seq (l := [(94, .iload 11, 2), (96, .iload 5, 2)]) (S2 := (98, [some (.ref 84), z1, some (.int v2), some (.int v3), some (.int v4), some (.int v5), z6, z7, some (.int v8), some (.int v9), some (.int v10), some (.int v11)], [.int v5, .int v11], M)) (by decide +kernel) (hO := mm_own_261) rfl ?_
  refine mm_R_ige (t := 155) rfl rfl rfl (fun hc => ?_) (fun hc => ?_)
  · replace h := mm_ip hc h
    refine mm_Runs.seq (l := [(101, .aload_n 0, 1), (102, .getfield 31, 3), (105, .iload 11, 2)]) (S2 := (107, [some (.ref 84), z1, some (.int v2), some (.int v3), some (.int v4), some (.int v5), z6, z7, some (.int v8), some (.int v9), some (.int v10), some (.int v11)], [.int v11, .ref 92], M)) (by decide +kernel) (hO := mm_own_261) rfl ?_
    obtain ⟨hb, h⟩ := mm_gd h
    refine mm_R_iald rfl rfl hb ?_
    refine mm_Runs.seq (l := [(108, .iload 10, 2)]) (S2 := (110, [some (.ref 84), z1, some (.int v2), some (.int v3), some (.int v4), some (.int v5), z6, z7, some (.int v8), some (.int v9), some (.int v10), some (.int v11)], [.int v10, .int (M.1 92 v11.toNatClampNeg)], M)) (by decide +kernel) (hO := mm_own_261) rfl ?_
    refine mm_R_ile (t := 149) rfl rfl rfl (fun hc => ?_) (fun hc => ?_)
    · replace h := mm_ip hc h
      refine mm_Runs.seq (l := [(113, .aload_n 0, 1), (114, .aload_n 0, 1), (115, .getfield 28, 3), (118, .iload 11, 2)]) (S2 := (120, [some (.ref 84), z1, some (.int v2), some (.int v3), some (.int v4), some (.int v5), z6, z7, some (.int v8), some (.int v9), some (.int v10), some (.int v11)], [.int v11, .ref 91, .ref 84], M)) (by decide +kernel) (hO := mm_own_261) rfl ?_
      obtain ⟨hb, h⟩ := mm_gd h
      refine mm_R_iald rfl rfl hb ?_
      refine mm_Runs.seq (l := [(121, .aload_n 0, 1), (122, .getfield 31, 3), (125, .iload 11, 2)]) (S2 := (127, [some (.ref 84), z1, some (.int v2), some (.int v3), some (.int v4), some (.int v5), z6, z7, some (.int v8), some (.int v9), some (.int v10), some (.int v11)], [.int v11, .ref 92, .int (M.1 91 v11.toNatClampNeg), .ref 84], M)) (by decide +kernel) (hO := mm_own_261) rfl ?_
      obtain ⟨hb, h⟩ := mm_gd h
      refine mm_R_iald rfl rfl hb ?_
      refine mm_Runs.seq (l := [(128, .iload 8, 2)]) (S2 := (130, [some (.ref 84), z1, some (.int v2), some (.int v3), some (.int v4), some (.int v5), z6, z7, some (.int v8), some (.int v9), some (.int v10), some (.int v11)], [.int v8, .int (M.1 92 v11.toNatClampNeg), .int (M.1 91 v11.toNatClampNeg), .ref 84], M)) (by decide +kernel) (hO := mm_own_261) rfl ?_
      refine mm_R_call (v := mm_wi) h hA (k2 := 262) (as := [.ref 84, .int (M.1 91 v11.toNatClampNeg), .int (M.1 92 v11.toNatClampNeg), .int v8]) (r := []) rfl (fun _ => rfl) (fun q hq o ho => ms_262 (by omega) hq ho) (fun r1 M2 h => ?_)
      show mm_Runs L xs (d + 1) 261 (133, [some (.ref 84), z1, some (.int v2), some (.int v3), some (.int v4), some (.int v5), z6, z7, some (.int v8), some (.int v9), some (.int v10), some (.int v11)], [.int r1], M2) o
      refine mm_R_zeq (t := 149) rfl rfl rfl (fun hc => ?_) (fun hc => ?_)
      · replace h := mm_ip hc h
        refine mm_Runs.seq (l := [(149, .iinc 11 1, 3), (152, .goto (-58), 3)]) (S2 := (94, [some (.ref 84), z1, some (.int v2), some (.int v3), some (.int v4), some (.int v5), z6, z7, some (.int v8), some (.int v9), some (.int v10), some (.int (v11 + (1 : Int32)))], [], M2)) (by decide +kernel) (hO := mm_own_261) rfl ?_
        cases h
        exact (show mp_261_94 L xs (d + 1) v2 v3 v4 v5 v8 v9 v10 (v11 + (1 : Int32)) M2 o from hA) z1 z6 z7
      · replace h := mm_iq hc h
        refine mm_Runs.seq (l := [(136, .iload 11, 2), (138, .istore 9, 2), (140, .aload_n 0, 1), (141, .getfield 31, 3), (144, .iload 11, 2)]) (S2 := (146, [some (.ref 84), z1, some (.int v2), some (.int v3), some (.int v4), some (.int v5), z6, z7, some (.int v8), some (.int v11), some (.int v10), some (.int v11)], [.int v11, .ref 92], M2)) (by decide +kernel) (hO := mm_own_261) rfl ?_
        obtain ⟨hb, h⟩ := mm_gd h
        refine mm_R_iald rfl rfl hb ?_
        refine mm_Runs.seq (l := [(147, .istore 10, 2), (149, .iinc 11 1, 3), (152, .goto (-58), 3)]) (S2 := (94, [some (.ref 84), z1, some (.int v2), some (.int v3), some (.int v4), some (.int v5), z6, z7, some (.int v8), some (.int v11), some (.int (M2.1 92 v11.toNatClampNeg)), some (.int (v11 + (1 : Int32)))], [], M2)) (by decide +kernel) (hO := mm_own_261) rfl ?_
        cases h
        exact (show mp_261_94 L xs (d + 1) v2 v3 v4 v5 v8 v11 (M2.1 92 v11.toNatClampNeg) (v11 + (1 : Int32)) M2 o from hA) z1 z6 z7
    · replace h := mm_iq hc h
      refine mm_Runs.seq (l := [(149, .iinc 11 1, 3), (152, .goto (-58), 3)]) (S2 := (94, [some (.ref 84), z1, some (.int v2), some (.int v3), some (.int v4), some (.int v5), z6, z7, some (.int v8), some (.int v9), some (.int v10), some (.int (v11 + (1 : Int32)))], [], M)) (by decide +kernel) (hO := mm_own_261) rfl ?_
      cases h
      exact (show mp_261_94 L xs (d + 1) v2 v3 v4 v5 v8 v9 v10 (v11 + (1 : Int32)) M o from hA) z1 z6 z7
  · replace h := mm_iq hc h
    cases h
    exact (show mp_261_155 L xs (d + 1) v2 v3 v4 v5 v8 v9 v10 M o from hA) z1 z6 z7 (some (.int v11))
theorem ms_261_L94 {L : Nat} {xs : Nat → Int32} {d : Nat} (hd : 4 ≤ d) {v2 : Int32} {v3 : Int32} {v4 : Int32} {v5 : Int32} {v8 : Int32} {v9 : Int32} {v10 : Int32} {v11 : Int32} {β : Type} {K : β → mm_M → mm_E → Prop} {F : (Int32 × Int32) → mm_M → mm_O β} {M : mm_M} {q : (β ⊕ Nat) × mm_M} {o : mm_E} (h : mm_B (mf_261_L94 v2 v3 v4 v5 v8 (v9, v10, v11) M) F = some q) (hA : mm_A K q o) (hx : ∀ (r : (Int32 × Int32)) (M2 : mm_M), F r M2 = some q → (fun r M o => mp_261_155 L xs (d) v2 v3 v4 v5 v8 r.1 r.2 M o) r M2 o) : mp_261_94 L xs d v2 v3 v4 v5 v8 v9 v10 v11 M o := by
  unfold mf_261_L94 at h
  exact mm_R_loop (step := (fun s M => mf_261_b94 v2 v3 v4 v5 v8 s.1 s.2.1 s.2.2 M)) (s := (v9, v10, v11)) (M := M) (P := (fun s M o => mp_261_94 L xs (d) v2 v3 v4 v5 v8 s.1 s.2.1 s.2.2 M o)) (X := (fun r M o => mp_261_155 L xs (d) v2 v3 v4 v5 v8 r.1 r.2 M o)) h hA (fun s M q hq hA => ms_261_b94 (v2 := v2) (v3 := v3) (v4 := v4) (v5 := v5) (v8 := v8) (v9 := s.1) (v10 := s.2.1) (v11 := s.2.2) (M := M) (q := q) hd hq hA) hx
def mp_261_200 (L : Nat) (xs : Nat → Int32) (d : Nat) (v2 : Int32) (v3 : Int32) (v4 : Int32) (v5 : Int32) (v6 : Int32) (v7 : Int32) (v8 : Int32) (s0 : Int32) (s1 : Int32) (s2 : Int32) (M : mm_M) (o : mm_E) : Prop := ∀ z1 z9 z10 z11 : Option Value, mm_Runs L xs d 261 (200, [some (.ref 84), z1, some (.int v2), some (.int v3), some (.int v4), some (.int v5), some (.int v6), some (.int v7), some (.int v8), z9, z10, z11], [.int s2, .int s1, .int s0], M) o
set_option maxRecDepth 8000 in
set_option maxHeartbeats 4000000 in
theorem ms_261_j200 {L : Nat} {xs : Nat → Int32} {d : Nat} (hd : 4 ≤ d) {v2 : Int32} {v3 : Int32} {v4 : Int32} {v5 : Int32} {v6 : Int32} {v7 : Int32} {v8 : Int32} {s0 : Int32} {s1 : Int32} {s2 : Int32} {M : mm_M} {q : (((Int32 × Int32 × Int32 × Int32 × Int32) ⊕ (Int32)) ⊕ Nat) × mm_M} {o : mm_E} (h : mf_261_j200 v2 v3 v4 v5 v6 v7 v8 s0 s1 s2 M = some q) (hA : mm_A (mm_K2 (fun s M o => mp_261_32 L xs (d) v2 v3 s.1 s.2.1 s.2.2.1 s.2.2.2.1 s.2.2.2.2 M o) (fun r M o => mp_261_219 L xs (d) v2 v3 r M o)) q o) : mp_261_200 L xs d v2 v3 v4 v5 v6 v7 v8 s0 s1 s2 M o := by
  unfold mf_261_j200 at h
  obtain ⟨d, rfl⟩ := mm_d1 (n := 3) hd
  intro z1 z9 z10 z11
  show mm_Runs L xs (d + 1) 261 (200, [some (.ref 84), z1, some (.int v2), some (.int v3), some (.int v4), some (.int v5), some (.int v6), some (.int v7), some (.int v8), z9, z10, z11], [.int s2, .int s1, .int s0], M) o
  refine mm_Runs.seq (l := [(200, .iadd, 1), (201, .iconst 1, 1), (202, .iload 4, 2), (204, .ishl, 1)]) (S2 := (205, [some (.ref 84), z1, some (.int v2), some (.int v3), some (.int v4), some (.int v5), some (.int v6), some (.int v7), some (.int v8), z9, z10, z11], [.int (mm_shl (1 : Int32) v4), .int (s1 + s2), .int s0], M)) (by decide +kernel) (hO := mm_own_261) rfl ?_
  refine mm_R_ilt (t := 212) rfl rfl rfl (fun hc => ?_) (fun hc => ?_)
  · replace h := mm_ip hc h
    refine mm_Runs.seq (l := [(212, .iconst 0, 1), (213, .iadd, 1), (214, .istore 4, 2), (216, .goto (-184), 3)]) (S2 := (32, [some (.ref 84), z1, some (.int v2), some (.int v3), some (.int (s0 + (0 : Int32))), some (.int v5), some (.int v6), some (.int v7), some (.int v8), z9, z10, z11], [], M)) (by decide +kernel) (hO := mm_own_261) rfl ?_
    cases h
    exact (show mp_261_32 L xs (d + 1) v2 v3 (s0 + (0 : Int32)) v5 v6 v7 v8 M o from hA) z1 z9 z10 z11
  · replace h := mm_iq hc h
    refine mm_Runs.seq (l := [(208, .iconst 1, 1), (209, .goto 4, 3), (213, .iadd, 1), (214, .istore 4, 2), (216, .goto (-184), 3)]) (S2 := (32, [some (.ref 84), z1, some (.int v2), some (.int v3), some (.int (s0 + (1 : Int32))), some (.int v5), some (.int v6), some (.int v7), some (.int v8), z9, z10, z11], [], M)) (by decide +kernel) (hO := mm_own_261) rfl ?_
    cases h
    exact (show mp_261_32 L xs (d + 1) v2 v3 (s0 + (1 : Int32)) v5 v6 v7 v8 M o from hA) z1 z9 z10 z11
set_option maxRecDepth 8000 in
set_option maxHeartbeats 4000000 in
theorem ms_261_j155 {L : Nat} {xs : Nat → Int32} {d : Nat} (hd : 4 ≤ d) {v2 : Int32} {v3 : Int32} {v4 : Int32} {v5 : Int32} {v8 : Int32} {v9 : Int32} {v10 : Int32} {M : mm_M} {q : (((Int32 × Int32 × Int32 × Int32 × Int32) ⊕ (Int32)) ⊕ Nat) × mm_M} {o : mm_E} (h : mf_261_j155 v2 v3 v4 v5 v8 v9 v10 M = some q) (hA : mm_A (mm_K2 (fun s M o => mp_261_32 L xs (d) v2 v3 s.1 s.2.1 s.2.2.1 s.2.2.2.1 s.2.2.2.2 M o) (fun r M o => mp_261_219 L xs (d) v2 v3 r M o)) q o) : mp_261_155 L xs d v2 v3 v4 v5 v8 v9 v10 M o := by
  unfold mf_261_j155 at h
  obtain ⟨d, rfl⟩ := mm_d1 (n := 3) hd
  intro z1 z6 z7 z11
  show mm_Runs L xs (d + 1) 261 (155, [some (.ref 84), z1, some (.int v2), some (.int v3), some (.int v4), some (.int v5), z6, z7, some (.int v8), some (.int v9), some (.int v10), z11], [], M) o
  refine mm_Runs.seq (l := [(155, .aload_n 0, 1), (156, .iload 9, 2), (158, .i2l, 1), (159, .iload 4, 2), (161, .iload_n 2, 1)]) (S2 := (162, [some (.ref 84), z1, some (.int v2), some (.int v3), some (.int v4), some (.int v5), z6, z7, some (.int v8), some (.int v9), some (.int v10), z11], [.int v2, .int v4, .long v9.toInt64, .ref 84], M)) (by decide +kernel) (hO := mm_own_261) rfl ?_
  refine mm_R_call (v := mm_wv) h hA (k2 := 249) (as := [.ref 84, .long v9.toInt64, .int v4, .int v2]) (r := []) rfl (fun _ => rfl) (fun q hq o ho => ms_249 (by omega) hq ho) (fun _ M1 h => ?_)
  show mm_Runs L xs (d + 1) 261 (165, [some (.ref 84), z1, some (.int v2), some (.int v3), some (.int v4), some (.int v5), z6, z7, some (.int v8), some (.int v9), some (.int v10), z11], [], M1) o
  refine mm_Runs.seq (l := [(165, .iload 8, 2), (167, .istore 6, 2), (169, .iload 10, 2), (171, .istore 7, 2), (173, .iload 8, 2), (175, .iload 10, 2), (177, .iadd, 1), (178, .istore 8, 2), (180, .iload 4, 2), (182, .iload 4, 2), (184, .bipush 12, 2)]) (S2 := (186, [some (.ref 84), z1, some (.int v2), some (.int v3), some (.int v4), some (.int v5), some (.int v8), some (.int v10), some (.int (v8 + v10)), some (.int v9), some (.int v10), z11], [.int (12 : Int32), .int v4, .int v4], M1)) (by decide +kernel) (hO := mm_own_261) rfl ?_
  refine mm_R_ige (t := 212) rfl rfl rfl (fun hc => ?_) (fun hc => ?_)
  · replace h := mm_ip hc h
    refine mm_Runs.seq (l := [(189, .iload 5, 2), (191, .iload_n 2, 1)]) (S2 := (192, [some (.ref 84), z1, some (.int v2), some (.int v3), some (.int v4), some (.int v5), some (.int v8), some (.int v10), some (.int (v8 + v10)), some (.int v9), some (.int v10), z11], [.int v2, .int v5, .int v4], M1)) (by decide +kernel) (hO := mm_own_261) rfl ?_
    refine mm_R_zeq (t := 199) rfl rfl rfl (fun hc => ?_) (fun hc => ?_)
    · replace h := mm_ip hc h
      refine mm_Runs.seq (l := [(199, .iconst 0, 1)]) (S2 := (200, [some (.ref 84), z1, some (.int v2), some (.int v3), some (.int v4), some (.int v5), some (.int v8), some (.int v10), some (.int (v8 + v10)), some (.int v9), some (.int v10), z11], [.int (0 : Int32), .int v5, .int v4], M1)) (by decide +kernel) (hO := mm_own_261) rfl ?_
      exact (ms_261_j200 hd h hA : mp_261_200 L xs (d + 1) v2 v3 v4 v5 v8 v10 (v8 + v10) v4 v5 (0 : Int32) M1 o) z1 (some (.int v9)) (some (.int v10)) z11
    · replace h := mm_iq hc h
      refine mm_Runs.seq (l := [(195, .iconst 1, 1), (196, .goto 4, 3)]) (S2 := (200, [some (.ref 84), z1, some (.int v2), some (.int v3), some (.int v4), some (.int v5), some (.int v8), some (.int v10), some (.int (v8 + v10)), some (.int v9), some (.int v10), z11], [.int (1 : Int32), .int v5, .int v4], M1)) (by decide +kernel) (hO := mm_own_261) rfl ?_
      exact (ms_261_j200 hd h hA : mp_261_200 L xs (d + 1) v2 v3 v4 v5 v8 v10 (v8 + v10) v4 v5 (1 : Int32) M1 o) z1 (some (.int v9)) (some (.int v10)) z11
  · replace h := mm_iq hc h
    refine mm_Runs.seq (l := [(212, .iconst 0, 1), (213, .iadd, 1), (214, .istore 4, 2), (216, .goto (-184), 3)]) (S2 := (32, [some (.ref 84), z1, some (.int v2), some (.int v3), some (.int (v4 + (0 : Int32))), some (.int v5), some (.int v8), some (.int v10), some (.int (v8 + v10)), some (.int v9), some (.int v10), z11], [], M1)) (by decide +kernel) (hO := mm_own_261) rfl ?_
    cases h
    exact (show mp_261_32 L xs (d + 1) v2 v3 (v4 + (0 : Int32)) v5 v8 v10 (v8 + v10) M1 o from hA) z1 (some (.int v9)) (some (.int v10)) z11
set_option maxRecDepth 8000 in
set_option maxHeartbeats 4000000 in
theorem ms_261_j77 {L : Nat} {xs : Nat → Int32} {d : Nat} (hd : 4 ≤ d) {v2 : Int32} {v3 : Int32} {v4 : Int32} {v5 : Int32} {v8 : Int32} {M : mm_M} {q : (((Int32 × Int32 × Int32 × Int32 × Int32) ⊕ (Int32)) ⊕ Nat) × mm_M} {o : mm_E} (h : mf_261_j77 v2 v3 v4 v5 v8 M = some q) (hA : mm_A (mm_K2 (fun s M o => mp_261_32 L xs (d) v2 v3 s.1 s.2.1 s.2.2.1 s.2.2.2.1 s.2.2.2.2 M o) (fun r M o => mp_261_219 L xs (d) v2 v3 r M o)) q o) : mp_261_77 L xs d v2 v3 v4 v5 v8 M o := by
  unfold mf_261_j77 at h
  obtain ⟨d, rfl⟩ := mm_d1 (n := 3) hd
  intro z1 z6 z7 z9 z10 z11
  show mm_Runs L xs (d + 1) 261 (77, [some (.ref 84), z1, some (.int v2), some (.int v3), some (.int v4), some (.int v5), z6, z7, some (.int v8), z9, z10, z11], [], M) o
  refine mm_Runs.seq (l := [(77, .aload_n 0, 1), (78, .getfield 7, 3), (81, .iload 8, 2)]) (S2 := (83, [some (.ref 84), z1, some (.int v2), some (.int v3), some (.int v4), some (.int v5), z6, z7, some (.int v8), z9, z10, z11], [.int v8, .ref 85], M)) (by decide +kernel) (hO := mm_own_261) rfl ?_
  obtain ⟨hb, h⟩ := mm_gd h
  refine mm_R_iald rfl rfl hb ?_
  refine mm_Runs.seq (l := [(84, .istore 9, 2), (86, .iconst 1, 1), (87, .istore 10, 2), (89, .iload_n 3, 1), (90, .iconst 2, 1), (91, .iadd, 1), (92, .istore 11, 2)]) (S2 := (94, [some (.ref 84), z1, some (.int v2), some (.int v3), some (.int v4), some (.int v5), z6, z7, some (.int v8), some (.int (M.1 85 v8.toNatClampNeg)), some (.int (1 : Int32)), some (.int (v3 + (2 : Int32)))], [], M)) (by decide +kernel) (hO := mm_own_261) rfl ?_
  have hp : mp_261_94 L xs (d + 1) v2 v3 v4 v5 v8 (M.1 85 v8.toNatClampNeg) (1 : Int32) (v3 + (2 : Int32)) M o := by
    refine ms_261_L94 hd h hA (fun r2 M1 h => ?_)
    intro y3 y4 y5 y6
    show mm_Runs L xs (d + 1) 261 (155, [some (.ref 84), y3, some (.int v2), some (.int v3), some (.int v4), some (.int v5), y4, y5, some (.int v8), some (.int r2.1), some (.int r2.2), y6], [], M1) o
    exact (ms_261_j155 hd h hA : mp_261_155 L xs (d + 1) v2 v3 v4 v5 v8 r2.1 r2.2 M1 o) y3 y4 y5 y6
  exact hp z1 z6 z7
set_option maxRecDepth 8000 in
set_option maxHeartbeats 4000000 in
theorem ms_261_b32 {L : Nat} {xs : Nat → Int32} {d : Nat} (hd : 4 ≤ d) {v2 : Int32} {v3 : Int32} {v4 : Int32} {v5 : Int32} {v6 : Int32} {v7 : Int32} {v8 : Int32} {M : mm_M} {q : (((Int32 × Int32 × Int32 × Int32 × Int32) ⊕ (Int32)) ⊕ Nat) × mm_M} {o : mm_E} (h : mf_261_b32 v2 v3 v4 v5 v6 v7 v8 M = some q) (hA : mm_A (mm_K2 (fun s M o => mp_261_32 L xs (d) v2 v3 s.1 s.2.1 s.2.2.1 s.2.2.2.1 s.2.2.2.2 M o) (fun r M o => mp_261_219 L xs (d) v2 v3 r M o)) q o) : mp_261_32 L xs d v2 v3 v4 v5 v6 v7 v8 M o := by
  unfold mf_261_b32 at h
  obtain ⟨d, rfl⟩ := mm_d1 (n := 3) hd
  intro z1 z9 z10 z11
  show mm_Runs L xs (d + 1) 261 (32, [some (.ref 84), z1, some (.int v2), some (.int v3), some (.int v4), some (.int v5), some (.int v6), some (.int v7), some (.int v8), z9, z10, z11], [], M) o
  refine mm_Runs.seq (l := [(32, .iload 8, 2), (34, .aload_n 0, 1), (35, .getfield 91, 3)]) (S2 := (38, [some (.ref 84), z1, some (.int v2), some (.int v3), some (.int v4), some (.int v5), some (.int v6), some (.int v7), some (.int v8), z9, z10, z11], [.int (M.1 84 2), .int v8], M)) (by decide +kernel) (hO := mm_own_261) rfl ?_
  refine mm_R_ige (t := 219) rfl rfl rfl (fun hc => ?_) (fun hc => ?_)
  · replace h := mm_ip hc h
    refine mm_Runs.seq (l := [(41, .iload 7, 2)]) (S2 := (43, [some (.ref 84), z1, some (.int v2), some (.int v3), some (.int v4), some (.int v5), some (.int v6), some (.int v7), some (.int v8), z9, z10, z11], [.int v7], M)) (by decide +kernel) (hO := mm_own_261) rfl ?_
    refine mm_R_zle (t := 77) rfl rfl rfl (fun hc => ?_) (fun hc => ?_)
    · replace h := mm_ip hc h
      refine mm_Runs.seq (l := [(46, .iload 5, 2), (48, .sipush 4096, 3)]) (S2 := (51, [some (.ref 84), z1, some (.int v2), some (.int v3), some (.int v4), some (.int v5), some (.int v6), some (.int v7), some (.int v8), z9, z10, z11], [.int (4096 : Int32), .int v5], M)) (by decide +kernel) (hO := mm_own_261) rfl ?_
      refine mm_R_ige (t := 77) rfl rfl rfl (fun hc => ?_) (fun hc => ?_)
      · replace h := mm_ip hc h
        refine mm_Runs.seq (l := [(54, .aload_n 0, 1), (55, .getfield 28, 3), (58, .iload 5, 2), (60, .iload 6, 2)]) (S2 := (62, [some (.ref 84), z1, some (.int v2), some (.int v3), some (.int v4), some (.int v5), some (.int v6), some (.int v7), some (.int v8), z9, z10, z11], [.int v6, .int v5, .ref 91], M)) (by decide +kernel) (hO := mm_own_261) rfl ?_
        obtain ⟨hb, h⟩ := mm_gd h
        refine mm_R_iast rfl rfl hb ?_
        refine mm_Runs.seq (l := [(63, .aload_n 0, 1), (64, .getfield 31, 3), (67, .iload 5, 2), (69, .iload 7, 2), (71, .iconst 1, 1), (72, .iadd, 1)]) (S2 := (73, [some (.ref 84), z1, some (.int v2), some (.int v3), some (.int v4), some (.int v5), some (.int v6), some (.int v7), some (.int v8), z9, z10, z11], [.int (v7 + (1 : Int32)), .int v5, .ref 92], (mm_pi M 91 v5.toNatClampNeg v6))) (by decide +kernel) (hO := mm_own_261) rfl ?_
        obtain ⟨hb, h⟩ := mm_gd h
        refine mm_R_iast rfl rfl hb ?_
        refine mm_Runs.seq (l := [(74, .iinc 5 1, 3)]) (S2 := (77, [some (.ref 84), z1, some (.int v2), some (.int v3), some (.int v4), some (.int (v5 + (1 : Int32))), some (.int v6), some (.int v7), some (.int v8), z9, z10, z11], [], (mm_pi (mm_pi M 91 v5.toNatClampNeg v6) 92 v5.toNatClampNeg (v7 + (1 : Int32))))) (by decide +kernel) (hO := mm_own_261) rfl ?_
        exact (ms_261_j77 hd h hA : mp_261_77 L xs (d + 1) v2 v3 v4 (v5 + (1 : Int32)) v8 (mm_pi (mm_pi M 91 v5.toNatClampNeg v6) 92 v5.toNatClampNeg (v7 + (1 : Int32))) o) z1 (some (.int v6)) (some (.int v7)) z9 z10 z11
      · replace h := mm_iq hc h
        exact (ms_261_j77 hd h hA : mp_261_77 L xs (d + 1) v2 v3 v4 v5 v8 M o) z1 (some (.int v6)) (some (.int v7)) z9 z10 z11
    · replace h := mm_iq hc h
      exact (ms_261_j77 hd h hA : mp_261_77 L xs (d + 1) v2 v3 v4 v5 v8 M o) z1 (some (.int v6)) (some (.int v7)) z9 z10 z11
  · replace h := mm_iq hc h
    cases h
    exact (show mp_261_219 L xs (d + 1) v2 v3 v4 M o from hA) z1 (some (.int v5)) (some (.int v6)) (some (.int v7)) (some (.int v8)) z9 z10 z11
theorem ms_261_L32 {L : Nat} {xs : Nat → Int32} {d : Nat} (hd : 4 ≤ d) {v2 : Int32} {v3 : Int32} {v4 : Int32} {v5 : Int32} {v6 : Int32} {v7 : Int32} {v8 : Int32} {β : Type} {K : β → mm_M → mm_E → Prop} {F : (Int32) → mm_M → mm_O β} {M : mm_M} {q : (β ⊕ Nat) × mm_M} {o : mm_E} (h : mm_B (mf_261_L32 v2 v3 (v4, v5, v6, v7, v8) M) F = some q) (hA : mm_A K q o) (hx : ∀ (r : (Int32)) (M2 : mm_M), F r M2 = some q → (fun r M o => mp_261_219 L xs (d) v2 v3 r M o) r M2 o) : mp_261_32 L xs d v2 v3 v4 v5 v6 v7 v8 M o := by
  unfold mf_261_L32 at h
  exact mm_R_loop (step := (fun s M => mf_261_b32 v2 v3 s.1 s.2.1 s.2.2.1 s.2.2.2.1 s.2.2.2.2 M)) (s := (v4, v5, v6, v7, v8)) (M := M) (P := (fun s M o => mp_261_32 L xs (d) v2 v3 s.1 s.2.1 s.2.2.1 s.2.2.2.1 s.2.2.2.2 M o)) (X := (fun r M o => mp_261_219 L xs (d) v2 v3 r M o)) h hA (fun s M q hq hA => ms_261_b32 (v2 := v2) (v3 := v3) (v4 := s.1) (v5 := s.2.1) (v6 := s.2.2.1) (v7 := s.2.2.2.1) (v8 := s.2.2.2.2) (M := M) (q := q) hd hq hA) hx
set_option maxRecDepth 8000 in
set_option maxHeartbeats 4000000 in
theorem ms_261_j219 {L : Nat} {xs : Nat → Int32} {d : Nat} (hd : 4 ≤ d) {v2 : Int32} {v3 : Int32} {v4 : Int32} {M : mm_M} {q : (Unit ⊕ Nat) × mm_M} {o : mm_E} (h : mf_261_j219 v2 v3 v4 M = some q) (hA : mm_A (mm_Kr mm_wv) q o) : mp_261_219 L xs d v2 v3 v4 M o := by
  unfold mf_261_j219 at h
  obtain ⟨d, rfl⟩ := mm_d1 (n := 3) hd
  intro z1 z5 z6 z7 z8 z9 z10 z11
  show mm_Runs L xs (d + 1) 261 (219, [some (.ref 84), z1, some (.int v2), some (.int v3), some (.int v4), z5, z6, z7, z8, z9, z10, z11], [], M) o
  refine mm_Runs.seq (l := [(219, .aload_n 0, 1), (220, .iload_n 3, 1), (221, .iconst 1, 1), (222, .iadd, 1), (223, .i2l, 1), (224, .iload 4, 2), (226, .iload_n 2, 1)]) (S2 := (227, [some (.ref 84), z1, some (.int v2), some (.int v3), some (.int v4), z5, z6, z7, z8, z9, z10, z11], [.int v2, .int v4, .long (v3 + (1 : Int32)).toInt64, .ref 84], M)) (by decide +kernel) (hO := mm_own_261) rfl ?_
  refine mm_R_call (v := mm_wv) h hA (k2 := 249) (as := [.ref 84, .long (v3 + (1 : Int32)).toInt64, .int v4, .int v2]) (r := []) rfl (fun _ => rfl) (fun q hq o ho => ms_249 (by omega) hq ho) (fun _ M1 h => ?_)
  show mm_Runs L xs (d + 1) 261 (230, [some (.ref 84), z1, some (.int v2), some (.int v3), some (.int v4), z5, z6, z7, z8, z9, z10, z11], [], M1) o
  refine mm_Runs.seq (l := [(230, .aload_n 0, 1)]) (S2 := (231, [some (.ref 84), z1, some (.int v2), some (.int v3), some (.int v4), z5, z6, z7, z8, z9, z10, z11], [.ref 84], M1)) (by decide +kernel) (hO := mm_own_261) rfl ?_
  refine mm_R_call (v := mm_wv) h hA (k2 := 248) (as := [.ref 84]) (r := []) rfl (fun _ => rfl) (fun q hq o ho => ms_248 (by omega) hq ho) (fun _ M2 h => ?_)
  show mm_Runs L xs (d + 1) 261 (234, [some (.ref 84), z1, some (.int v2), some (.int v3), some (.int v4), z5, z6, z7, z8, z9, z10, z11], [], M2) o
  cases h
  exact mm_R_retv rfl rfl hA
set_option maxRecDepth 8000 in
set_option maxHeartbeats 4000000 in
theorem ms_261 {L : Nat} {xs : Nat → Int32} {d : Nat} (hd : 4 ≤ d) {v1 : Int32} {v2 : Int32} {M : mm_M} {q : (Unit ⊕ Nat) × mm_M} {o : mm_E} (h : mf_261 v1 v2 M = some q) (hA : mm_A (mm_Kr mm_wv) q o) : mm_Runs L xs d 261 (0, mm_ent (mm_ml 261) [.ref 84, .int v1, .int v2], [], M) o := by
  unfold mf_261 at h
  obtain ⟨d, rfl⟩ := mm_d1 (n := 3) hd
  show mm_Runs L xs (d + 1) 261 (0, [some (.ref 84), some (.int v1), some (.int v2), none, none, none, none, none, none, none, none, none], [], M) o
  refine mm_Runs.seq (l := [(0, .iconst 1, 1), (1, .iload_n 1, 1), (2, .ishl, 1), (3, .istore_n 3, 1), (4, .iload_n 1, 1), (5, .iconst 1, 1), (6, .iadd, 1), (7, .istore 4, 2), (9, .iload_n 3, 1), (10, .iconst 2, 1), (11, .iadd, 1), (12, .istore 5, 2), (14, .iconst 0, 1), (15, .istore 6, 2), (17, .iconst 0, 1), (18, .istore 7, 2), (20, .aload_n 0, 1), (21, .iload_n 3, 1), (22, .i2l, 1), (23, .iload 4, 2), (25, .iload_n 2, 1)]) (S2 := (26, [some (.ref 84), some (.int v1), some (.int v2), some (.int (mm_shl (1 : Int32) v1)), some (.int (v1 + (1 : Int32))), some (.int ((mm_shl (1 : Int32) v1) + (2 : Int32))), some (.int (0 : Int32)), some (.int (0 : Int32)), none, none, none, none], [.int v2, .int (v1 + (1 : Int32)), .long (mm_shl (1 : Int32) v1).toInt64, .ref 84], M)) (by decide +kernel) (hO := mm_own_261) rfl ?_
  refine mm_R_call (v := mm_wv) h hA (k2 := 249) (as := [.ref 84, .long (mm_shl (1 : Int32) v1).toInt64, .int (v1 + (1 : Int32)), .int v2]) (r := []) rfl (fun _ => rfl) (fun q hq o ho => ms_249 (by omega) hq ho) (fun _ M1 h => ?_)
  show mm_Runs L xs (d + 1) 261 (29, [some (.ref 84), some (.int v1), some (.int v2), some (.int (mm_shl (1 : Int32) v1)), some (.int (v1 + (1 : Int32))), some (.int ((mm_shl (1 : Int32) v1) + (2 : Int32))), some (.int (0 : Int32)), some (.int (0 : Int32)), none, none, none, none], [], M1) o
  refine mm_Runs.seq (l := [(29, .iconst 0, 1), (30, .istore 8, 2)]) (S2 := (32, [some (.ref 84), some (.int v1), some (.int v2), some (.int (mm_shl (1 : Int32) v1)), some (.int (v1 + (1 : Int32))), some (.int ((mm_shl (1 : Int32) v1) + (2 : Int32))), some (.int (0 : Int32)), some (.int (0 : Int32)), some (.int (0 : Int32)), none, none, none], [], M1)) (by decide +kernel) (hO := mm_own_261) rfl ?_
  have hp : mp_261_32 L xs (d + 1) v2 (mm_shl (1 : Int32) v1) (v1 + (1 : Int32)) ((mm_shl (1 : Int32) v1) + (2 : Int32)) (0 : Int32) (0 : Int32) (0 : Int32) M1 o := by
    refine ms_261_L32 hd h hA (fun r3 M2 h => ?_)
    intro y4 y5 y6 y7 y8 y9 y10 y11
    show mm_Runs L xs (d + 1) 261 (219, [some (.ref 84), y4, some (.int v2), some (.int (mm_shl (1 : Int32) v1)), some (.int r3), y5, y6, y7, y8, y9, y10, y11], [], M2) o
    exact (ms_261_j219 hd h hA : mp_261_219 L xs (d + 1) v2 (mm_shl (1 : Int32) v1) r3 M2 o) y4 y5 y6 y7 y8 y9 y10 y11
  exact hp (some (.int v1)) none none none
-- 263: PlainPacksModel.writeGrown(I)V (depth 1)
theorem mm_own_263 : mm_own 263 = 12 := rfl
def mp_263_5 (L : Nat) (xs : Nat → Int32) (d : Nat) (v2 : Int32) (M : mm_M) (o : mm_E) : Prop := ∀ z1 : Option Value, mm_Runs L xs d 263 (5, [some (.ref 84), z1, some (.int v2)], [], M) o
def mp_263_28 (L : Nat) (xs : Nat → Int32) (d : Nat) (v2 : Int32) (M : mm_M) (o : mm_E) : Prop := ∀ z1 : Option Value, mm_Runs L xs d 263 (28, [some (.ref 84), z1, some (.int v2)], [], M) o
set_option maxRecDepth 8000 in
set_option maxHeartbeats 4000000 in
theorem ms_263_b5 {L : Nat} {xs : Nat → Int32} {d : Nat} (hd : 1 ≤ d) {v2 : Int32} {M : mm_M} {q : (((Int32) ⊕ (Int32)) ⊕ Nat) × mm_M} {o : mm_E} (h : mf_263_b5 v2 M = some q) (hA : mm_A (mm_K2 (fun s M o => mp_263_5 L xs (d) s M o) (fun r M o => mp_263_28 L xs (d) r M o)) q o) : mp_263_5 L xs d v2 M o := by
  unfold mf_263_b5 at h
  obtain ⟨d, rfl⟩ := mm_d1 (n := 0) hd
  intro z1
  show mm_Runs L xs (d + 1) 263 (5, [some (.ref 84), z1, some (.int v2)], [], M) o
  refine mm_Runs.seq (l := [(5, .iload_n 2, 1), (6, .sipush 255, 3)]) (S2 := (9, [some (.ref 84), z1, some (.int v2)], [.int (255 : Int32), .int v2], M)) (by decide +kernel) (hO := mm_own_263) rfl ?_
  refine mm_R_ilt (t := 28) rfl rfl rfl (fun hc => ?_) (fun hc => ?_)
  · replace h := mm_ip hc h
    cases h
    exact (show mp_263_28 L xs (d + 1) v2 M o from hA) z1
  · replace h := mm_iq hc h
    refine mm_Runs.seq (l := [(12, .aload_n 0, 1), (13, .sipush 255, 3)]) (S2 := (16, [some (.ref 84), z1, some (.int v2)], [.int (255 : Int32), .ref 84], M)) (by decide +kernel) (hO := mm_own_263) rfl ?_
    refine mm_R_call (v := mm_wv) h hA (k2 := 245) (as := [.ref 84, .int (255 : Int32)]) (r := []) rfl (fun _ => rfl) (fun q hq o ho => ms_245 (by omega) hq ho) (fun _ M1 h => ?_)
    show mm_Runs L xs (d + 1) 263 (19, [some (.ref 84), z1, some (.int v2)], [], M1) o
    refine mm_Runs.seq (l := [(19, .iinc 2 (-255), 6), (25, .goto (-20), 3)]) (S2 := (5, [some (.ref 84), (mm_no2 z1), some (.int (v2 + (-255 : Int32)))], [], M1)) (by decide +kernel) (hO := mm_own_263) rfl ?_
    cases h
    exact (show mp_263_5 L xs (d + 1) (v2 + (-255 : Int32)) M1 o from hA) ((mm_no2 z1))
theorem ms_263_L5 {L : Nat} {xs : Nat → Int32} {d : Nat} (hd : 1 ≤ d) {v2 : Int32} {β : Type} {K : β → mm_M → mm_E → Prop} {F : (Int32) → mm_M → mm_O β} {M : mm_M} {q : (β ⊕ Nat) × mm_M} {o : mm_E} (h : mm_B (mf_263_L5 v2 M) F = some q) (hA : mm_A K q o) (hx : ∀ (r : (Int32)) (M2 : mm_M), F r M2 = some q → (fun r M o => mp_263_28 L xs (d) r M o) r M2 o) : mp_263_5 L xs d v2 M o := by
  unfold mf_263_L5 at h
  exact mm_R_loop (step := (fun s M => mf_263_b5 s M)) (s := v2) (M := M) (P := (fun s M o => mp_263_5 L xs (d) s M o)) (X := (fun r M o => mp_263_28 L xs (d) r M o)) h hA (fun s M q hq hA => ms_263_b5 (v2 := s) (M := M) (q := q) hd hq hA) hx
set_option maxRecDepth 8000 in
set_option maxHeartbeats 4000000 in
theorem ms_263_j28 {L : Nat} {xs : Nat → Int32} {d : Nat} (hd : 1 ≤ d) {v2 : Int32} {M : mm_M} {q : (Unit ⊕ Nat) × mm_M} {o : mm_E} (h : mf_263_j28 v2 M = some q) (hA : mm_A (mm_Kr mm_wv) q o) : mp_263_28 L xs d v2 M o := by
  unfold mf_263_j28 at h
  obtain ⟨d, rfl⟩ := mm_d1 (n := 0) hd
  intro z1
  show mm_Runs L xs (d + 1) 263 (28, [some (.ref 84), z1, some (.int v2)], [], M) o
  refine mm_Runs.seq (l := [(28, .iload_n 2, 1)]) (S2 := (29, [some (.ref 84), z1, some (.int v2)], [.int v2], M)) (by decide +kernel) (hO := mm_own_263) rfl ?_
  refine mm_R_zlt (t := 37) rfl rfl rfl (fun hc => ?_) (fun hc => ?_)
  · replace h := mm_ip hc h
    cases h
    exact mm_R_retv rfl rfl hA
  · replace h := mm_iq hc h
    refine mm_Runs.seq (l := [(32, .aload_n 0, 1), (33, .iload_n 2, 1)]) (S2 := (34, [some (.ref 84), z1, some (.int v2)], [.int v2, .ref 84], M)) (by decide +kernel) (hO := mm_own_263) rfl ?_
    refine mm_R_call (v := mm_wv) h hA (k2 := 245) (as := [.ref 84, .int v2]) (r := []) rfl (fun _ => rfl) (fun q hq o ho => ms_245 (by omega) hq ho) (fun _ M1 h => ?_)
    show mm_Runs L xs (d + 1) 263 (37, [some (.ref 84), z1, some (.int v2)], [], M1) o
    cases h
    exact mm_R_retv rfl rfl hA
set_option maxRecDepth 8000 in
set_option maxHeartbeats 4000000 in
theorem ms_263 {L : Nat} {xs : Nat → Int32} {d : Nat} (hd : 1 ≤ d) {v1 : Int32} {M : mm_M} {q : (Unit ⊕ Nat) × mm_M} {o : mm_E} (h : mf_263 v1 M = some q) (hA : mm_A (mm_Kr mm_wv) q o) : mm_Runs L xs d 263 (0, mm_ent (mm_ml 263) [.ref 84, .int v1], [], M) o := by
  unfold mf_263 at h
  obtain ⟨d, rfl⟩ := mm_d1 (n := 0) hd
  show mm_Runs L xs (d + 1) 263 (0, [some (.ref 84), some (.int v1), none], [], M) o
  refine mm_Runs.seq (l := [(0, .iload_n 1, 1), (1, .bipush 15, 2), (3, .isub, 1), (4, .istore_n 2, 1)]) (S2 := (5, [some (.ref 84), some (.int v1), some (.int (v1 - (15 : Int32)))], [], M)) (by decide +kernel) (hO := mm_own_263) rfl ?_
  have hp : mp_263_5 L xs (d + 1) (v1 - (15 : Int32)) M o := by
    refine ms_263_L5 hd h hA (fun r2 M1 h => ?_)
    intro y3
    show mm_Runs L xs (d + 1) 263 (28, [some (.ref 84), y3, some (.int r2)], [], M1) o
    exact (ms_263_j28 hd h hA : mp_263_28 L xs (d + 1) r2 M1 o) y3
  exact hp (some (.int v1))
-- 264: PlainPacksModel.writePiece(IIII)V (depth 2)
theorem mm_own_264 : mm_own 264 = 12 := rfl
def mp_264_25 (L : Nat) (xs : Nat → Int32) (d : Nat) (v1 : Int32) (v2 : Int32) (v3 : Int32) (v4 : Int32) (v5 : Int32) (v6 : Int32) (s1 : Int32) (M : mm_M) (o : mm_E) : Prop := ∀ z7 : Option Value, mm_Runs L xs d 264 (25, [some (.ref 84), some (.int v1), some (.int v2), some (.int v3), some (.int v4), some (.int v5), some (.int v6), z7], [.int s1, .ref 84], M) o
def mp_264_49 (L : Nat) (xs : Nat → Int32) (d : Nat) (v1 : Int32) (v2 : Int32) (v3 : Int32) (v4 : Int32) (v5 : Int32) (v6 : Int32) (s1 : Int32) (s2 : Int32) (M : mm_M) (o : mm_E) : Prop := ∀ z7 : Option Value, mm_Runs L xs d 264 (49, [some (.ref 84), some (.int v1), some (.int v2), some (.int v3), some (.int v4), some (.int v5), some (.int v6), z7], [.int s2, .int s1, .ref 84], M) o
def mp_264_62 (L : Nat) (xs : Nat → Int32) (d : Nat) (v2 : Int32) (v3 : Int32) (v4 : Int32) (v6 : Int32) (v7 : Int32) (M : mm_M) (o : mm_E) : Prop := ∀ z1 z5 : Option Value, mm_Runs L xs d 264 (62, [some (.ref 84), z1, some (.int v2), some (.int v3), some (.int v4), z5, some (.int v6), some (.int v7)], [], M) o
def mp_264_85 (L : Nat) (xs : Nat → Int32) (d : Nat) (v3 : Int32) (v4 : Int32) (v6 : Int32) (M : mm_M) (o : mm_E) : Prop := ∀ z1 z2 z5 z7 : Option Value, mm_Runs L xs d 264 (85, [some (.ref 84), z1, z2, some (.int v3), some (.int v4), z5, some (.int v6), z7], [], M) o
set_option maxRecDepth 8000 in
set_option maxHeartbeats 4000000 in
theorem ms_264_b62 {L : Nat} {xs : Nat → Int32} {d : Nat} (hd : 2 ≤ d) {v2 : Int32} {v3 : Int32} {v4 : Int32} {v6 : Int32} {v7 : Int32} {M : mm_M} {q : (((Int32) ⊕ (Unit)) ⊕ Nat) × mm_M} {o : mm_E} (h : mf_264_b62 v2 v3 v4 v6 v7 M = some q) (hA : mm_A (mm_K2 (fun s M o => mp_264_62 L xs (d) v2 v3 v4 v6 s M o) (fun r M o => mp_264_85 L xs (d) v3 v4 v6 M o)) q o) : mp_264_62 L xs d v2 v3 v4 v6 v7 M o := by
  unfold mf_264_b62 at h
  obtain ⟨d, rfl⟩ := mm_d1 (n := 1) hd
  intro z1 z5
  show mm_Runs L xs (d + 1) 264 (62, [some (.ref 84), z1, some (.int v2), some (.int v3), some (.int v4), z5, some (.int v6), some (.int v7)], [], M) o
  refine mm_Runs.seq (l := [(62, .iload 7, 2), (64, .iload_n 2, 1)]) (S2 := (65, [some (.ref 84), z1, some (.int v2), some (.int v3), some (.int v4), z5, some (.int v6), some (.int v7)], [.int v2, .int v7], M)) (by decide +kernel) (hO := mm_own_264) rfl ?_
  refine mm_R_ige (t := 85) rfl rfl rfl (fun hc => ?_) (fun hc => ?_)
  · replace h := mm_ip hc h
    refine mm_Runs.seq (l := [(68, .aload_n 0, 1), (69, .aload_n 0, 1), (70, .getfield 7, 3), (73, .iload 7, 2)]) (S2 := (75, [some (.ref 84), z1, some (.int v2), some (.int v3), some (.int v4), z5, some (.int v6), some (.int v7)], [.int v7, .ref 85, .ref 84], M)) (by decide +kernel) (hO := mm_own_264) rfl ?_
    obtain ⟨hb, h⟩ := mm_gd h
    refine mm_R_iald rfl rfl hb ?_
    refine mm_R_call (v := mm_wv) h hA (k2 := 245) (as := [.ref 84, .int (M.1 85 v7.toNatClampNeg)]) (r := []) rfl (fun _ => rfl) (fun q hq o ho => ms_245 (by omega) hq ho) (fun _ M1 h => ?_)
    show mm_Runs L xs (d + 1) 264 (79, [some (.ref 84), z1, some (.int v2), some (.int v3), some (.int v4), z5, some (.int v6), some (.int v7)], [], M1) o
    refine mm_Runs.seq (l := [(79, .iinc 7 1, 3), (82, .goto (-20), 3)]) (S2 := (62, [some (.ref 84), z1, some (.int v2), some (.int v3), some (.int v4), z5, some (.int v6), some (.int (v7 + (1 : Int32)))], [], M1)) (by decide +kernel) (hO := mm_own_264) rfl ?_
    cases h
    exact (show mp_264_62 L xs (d + 1) v2 v3 v4 v6 (v7 + (1 : Int32)) M1 o from hA) z1 z5
  · replace h := mm_iq hc h
    cases h
    exact (show mp_264_85 L xs (d + 1) v3 v4 v6 M o from hA) z1 (some (.int v2)) z5 (some (.int v7))
theorem ms_264_L62 {L : Nat} {xs : Nat → Int32} {d : Nat} (hd : 2 ≤ d) {v2 : Int32} {v3 : Int32} {v4 : Int32} {v6 : Int32} {v7 : Int32} {β : Type} {K : β → mm_M → mm_E → Prop} {F : (Unit) → mm_M → mm_O β} {M : mm_M} {q : (β ⊕ Nat) × mm_M} {o : mm_E} (h : mm_B (mf_264_L62 v2 v3 v4 v6 v7 M) F = some q) (hA : mm_A K q o) (hx : ∀ (r : (Unit)) (M2 : mm_M), F r M2 = some q → (fun r M o => mp_264_85 L xs (d) v3 v4 v6 M o) r M2 o) : mp_264_62 L xs d v2 v3 v4 v6 v7 M o := by
  unfold mf_264_L62 at h
  exact mm_R_loop (step := (fun s M => mf_264_b62 v2 v3 v4 v6 s M)) (s := v7) (M := M) (P := (fun s M o => mp_264_62 L xs (d) v2 v3 v4 v6 s M o)) (X := (fun r M o => mp_264_85 L xs (d) v3 v4 v6 M o)) h hA (fun s M q hq hA => ms_264_b62 (v2 := v2) (v3 := v3) (v4 := v4) (v6 := v6) (v7 := s) (M := M) (q := q) hd hq hA) hx
set_option maxRecDepth 8000 in
set_option maxHeartbeats 4000000 in
theorem ms_264_j85 {L : Nat} {xs : Nat → Int32} {d : Nat} (hd : 2 ≤ d) {v3 : Int32} {v4 : Int32} {v6 : Int32} {M : mm_M} {q : (Unit ⊕ Nat) × mm_M} {o : mm_E} (h : mf_264_j85 v3 v4 v6 M = some q) (hA : mm_A (mm_Kr mm_wv) q o) : mp_264_85 L xs d v3 v4 v6 M o := by
  unfold mf_264_j85 at h
  obtain ⟨d, rfl⟩ := mm_d1 (n := 1) hd
  intro z1 z2 z5 z7
  show mm_Runs L xs (d + 1) 264 (85, [some (.ref 84), z1, z2, some (.int v3), some (.int v4), z5, some (.int v6), z7], [], M) o
  refine mm_Runs.seq (l := [(85, .iload_n 3, 1)]) (S2 := (86, [some (.ref 84), z1, z2, some (.int v3), some (.int v4), z5, some (.int v6), z7], [.int v3], M)) (by decide +kernel) (hO := mm_own_264) rfl ?_
  refine mm_R_zle (t := 103) rfl rfl rfl (fun hc => ?_) (fun hc => ?_)
  · replace h := mm_ip hc h
    refine mm_Runs.seq (l := [(89, .aload_n 0, 1), (90, .iload 4, 2), (92, .i2l, 1), (93, .iconst 2, 1)]) (S2 := (94, [some (.ref 84), z1, z2, some (.int v3), some (.int v4), z5, some (.int v6), z7], [.int (2 : Int32), .long v4.toInt64, .ref 84], M)) (by decide +kernel) (hO := mm_own_264) rfl ?_
    refine mm_R_call (v := mm_wv) h hA (k2 := 246) (as := [.ref 84, .long v4.toInt64, .int (2 : Int32)]) (r := []) rfl (fun _ => rfl) (fun q hq o ho => ms_246 (by omega) hq ho) (fun _ M1 h => ?_)
    show mm_Runs L xs (d + 1) 264 (97, [some (.ref 84), z1, z2, some (.int v3), some (.int v4), z5, some (.int v6), z7], [], M1) o
    refine mm_Runs.seq (l := [(97, .aload_n 0, 1), (98, .iload 6, 2)]) (S2 := (100, [some (.ref 84), z1, z2, some (.int v3), some (.int v4), z5, some (.int v6), z7], [.int v6, .ref 84], M1)) (by decide +kernel) (hO := mm_own_264) rfl ?_
    refine mm_R_call (v := mm_wv) h hA (k2 := 263) (as := [.ref 84, .int v6]) (r := []) rfl (fun _ => rfl) (fun q hq o ho => ms_263 (by omega) hq ho) (fun _ M2 h => ?_)
    show mm_Runs L xs (d + 1) 264 (103, [some (.ref 84), z1, z2, some (.int v3), some (.int v4), z5, some (.int v6), z7], [], M2) o
    cases h
    exact mm_R_retv rfl rfl hA
  · replace h := mm_iq hc h
    cases h
    exact mm_R_retv rfl rfl hA
set_option maxRecDepth 8000 in
set_option maxHeartbeats 4000000 in
theorem ms_264_j49 {L : Nat} {xs : Nat → Int32} {d : Nat} (hd : 2 ≤ d) {v1 : Int32} {v2 : Int32} {v3 : Int32} {v4 : Int32} {v5 : Int32} {v6 : Int32} {s1 : Int32} {s2 : Int32} {M : mm_M} {q : (Unit ⊕ Nat) × mm_M} {o : mm_E} (h : mf_264_j49 v1 v2 v3 v4 v5 v6 s1 s2 M = some q) (hA : mm_A (mm_Kr mm_wv) q o) : mp_264_49 L xs d v1 v2 v3 v4 v5 v6 s1 s2 M o := by
  unfold mf_264_j49 at h
  obtain ⟨d, rfl⟩ := mm_d1 (n := 1) hd
  intro z7
  show mm_Runs L xs (d + 1) 264 (49, [some (.ref 84), some (.int v1), some (.int v2), some (.int v3), some (.int v4), some (.int v5), some (.int v6), z7], [.int s2, .int s1, .ref 84], M) o
  refine mm_Runs.seq (l := [(49, .ior, 1)]) (S2 := (50, [some (.ref 84), some (.int v1), some (.int v2), some (.int v3), some (.int v4), some (.int v5), some (.int v6), z7], [.int (s1 ||| s2), .ref 84], M)) (by decide +kernel) (hO := mm_own_264) rfl ?_
  refine mm_R_call (v := mm_wv) h hA (k2 := 245) (as := [.ref 84, .int (s1 ||| s2)]) (r := []) rfl (fun _ => rfl) (fun q hq o ho => ms_245 (by omega) hq ho) (fun _ M1 h => ?_)
  show mm_Runs L xs (d + 1) 264 (53, [some (.ref 84), some (.int v1), some (.int v2), some (.int v3), some (.int v4), some (.int v5), some (.int v6), z7], [], M1) o
  refine mm_Runs.seq (l := [(53, .aload_n 0, 1), (54, .iload 5, 2)]) (S2 := (56, [some (.ref 84), some (.int v1), some (.int v2), some (.int v3), some (.int v4), some (.int v5), some (.int v6), z7], [.int v5, .ref 84], M1)) (by decide +kernel) (hO := mm_own_264) rfl ?_
  refine mm_R_call (v := mm_wv) h hA (k2 := 263) (as := [.ref 84, .int v5]) (r := []) rfl (fun _ => rfl) (fun q hq o ho => ms_263 (by omega) hq ho) (fun _ M2 h => ?_)
  show mm_Runs L xs (d + 1) 264 (59, [some (.ref 84), some (.int v1), some (.int v2), some (.int v3), some (.int v4), some (.int v5), some (.int v6), z7], [], M2) o
  refine mm_Runs.seq (l := [(59, .iload_n 1, 1), (60, .istore 7, 2)]) (S2 := (62, [some (.ref 84), some (.int v1), some (.int v2), some (.int v3), some (.int v4), some (.int v5), some (.int v6), some (.int v1)], [], M2)) (by decide +kernel) (hO := mm_own_264) rfl ?_
  have hp : mp_264_62 L xs (d + 1) v2 v3 v4 v6 v1 M2 o := by
    refine ms_264_L62 hd h hA (fun r4 M3 h => ?_)
    intro y5 y6 y7 y8
    show mm_Runs L xs (d + 1) 264 (85, [some (.ref 84), y5, y6, some (.int v3), some (.int v4), y7, some (.int v6), y8], [], M3) o
    exact (ms_264_j85 hd h hA : mp_264_85 L xs (d + 1) v3 v4 v6 M3 o) y5 y6 y7 y8
  exact hp (some (.int v1)) (some (.int v5))
set_option maxRecDepth 8000 in
set_option maxHeartbeats 4000000 in
theorem ms_264_j25 {L : Nat} {xs : Nat → Int32} {d : Nat} (hd : 2 ≤ d) {v1 : Int32} {v2 : Int32} {v3 : Int32} {v4 : Int32} {v5 : Int32} {v6 : Int32} {s1 : Int32} {M : mm_M} {q : (Unit ⊕ Nat) × mm_M} {o : mm_E} (h : mf_264_j25 v1 v2 v3 v4 v5 v6 s1 M = some q) (hA : mm_A (mm_Kr mm_wv) q o) : mp_264_25 L xs d v1 v2 v3 v4 v5 v6 s1 M o := by
  unfold mf_264_j25 at h
  obtain ⟨d, rfl⟩ := mm_d1 (n := 1) hd
  intro z7
  show mm_Runs L xs (d + 1) 264 (25, [some (.ref 84), some (.int v1), some (.int v2), some (.int v3), some (.int v4), some (.int v5), some (.int v6), z7], [.int s1, .ref 84], M) o
  refine mm_Runs.seq (l := [(25, .iconst 4, 1), (26, .ishl, 1), (27, .iload_n 3, 1)]) (S2 := (28, [some (.ref 84), some (.int v1), some (.int v2), some (.int v3), some (.int v4), some (.int v5), some (.int v6), z7], [.int v3, .int (mm_shl s1 (4 : Int32)), .ref 84], M)) (by decide +kernel) (hO := mm_own_264) rfl ?_
  refine mm_R_zne (t := 35) rfl rfl rfl (fun hc => ?_) (fun hc => ?_)
  · replace h := mm_ip hc h
    refine mm_Runs.seq (l := [(31, .iconst 0, 1), (32, .goto 17, 3)]) (S2 := (49, [some (.ref 84), some (.int v1), some (.int v2), some (.int v3), some (.int v4), some (.int v5), some (.int v6), z7], [.int (0 : Int32), .int (mm_shl s1 (4 : Int32)), .ref 84], M)) (by decide +kernel) (hO := mm_own_264) rfl ?_
    exact (ms_264_j49 hd h hA : mp_264_49 L xs (d + 1) v1 v2 v3 v4 v5 v6 (mm_shl s1 (4 : Int32)) (0 : Int32) M o) z7
  · replace h := mm_iq hc h
    refine mm_Runs.seq (l := [(35, .iload 6, 2), (37, .bipush 15, 2)]) (S2 := (39, [some (.ref 84), some (.int v1), some (.int v2), some (.int v3), some (.int v4), some (.int v5), some (.int v6), z7], [.int (15 : Int32), .int v6, .int (mm_shl s1 (4 : Int32)), .ref 84], M)) (by decide +kernel) (hO := mm_own_264) rfl ?_
    refine mm_R_ige (t := 47) rfl rfl rfl (fun hc => ?_) (fun hc => ?_)
    · replace h := mm_ip hc h
      refine mm_Runs.seq (l := [(42, .iload 6, 2), (44, .goto 5, 3)]) (S2 := (49, [some (.ref 84), some (.int v1), some (.int v2), some (.int v3), some (.int v4), some (.int v5), some (.int v6), z7], [.int v6, .int (mm_shl s1 (4 : Int32)), .ref 84], M)) (by decide +kernel) (hO := mm_own_264) rfl ?_
      exact (ms_264_j49 hd h hA : mp_264_49 L xs (d + 1) v1 v2 v3 v4 v5 v6 (mm_shl s1 (4 : Int32)) v6 M o) z7
    · replace h := mm_iq hc h
      refine mm_Runs.seq (l := [(47, .bipush 15, 2)]) (S2 := (49, [some (.ref 84), some (.int v1), some (.int v2), some (.int v3), some (.int v4), some (.int v5), some (.int v6), z7], [.int (15 : Int32), .int (mm_shl s1 (4 : Int32)), .ref 84], M)) (by decide +kernel) (hO := mm_own_264) rfl ?_
      exact (ms_264_j49 hd h hA : mp_264_49 L xs (d + 1) v1 v2 v3 v4 v5 v6 (mm_shl s1 (4 : Int32)) (15 : Int32) M o) z7
set_option maxRecDepth 8000 in
set_option maxHeartbeats 4000000 in
theorem ms_264 {L : Nat} {xs : Nat → Int32} {d : Nat} (hd : 2 ≤ d) {v1 : Int32} {v2 : Int32} {v3 : Int32} {v4 : Int32} {M : mm_M} {q : (Unit ⊕ Nat) × mm_M} {o : mm_E} (h : mf_264 v1 v2 v3 v4 M = some q) (hA : mm_A (mm_Kr mm_wv) q o) : mm_Runs L xs d 264 (0, mm_ent (mm_ml 264) [.ref 84, .int v1, .int v2, .int v3, .int v4], [], M) o := by
  unfold mf_264 at h
  obtain ⟨d, rfl⟩ := mm_d1 (n := 1) hd
  show mm_Runs L xs (d + 1) 264 (0, [some (.ref 84), some (.int v1), some (.int v2), some (.int v3), some (.int v4), none, none, none], [], M) o
  refine mm_Runs.seq (l := [(0, .iload_n 2, 1), (1, .iload_n 1, 1), (2, .isub, 1), (3, .istore 5, 2), (5, .iload_n 3, 1), (6, .iconst 4, 1), (7, .isub, 1), (8, .istore 6, 2), (10, .aload_n 0, 1), (11, .iload 5, 2), (13, .bipush 15, 2)]) (S2 := (15, [some (.ref 84), some (.int v1), some (.int v2), some (.int v3), some (.int v4), some (.int (v2 - v1)), some (.int (v3 - (4 : Int32))), none], [.int (15 : Int32), .int (v2 - v1), .ref 84], M)) (by decide +kernel) (hO := mm_own_264) rfl ?_
  refine mm_R_ige (t := 23) rfl rfl rfl (fun hc => ?_) (fun hc => ?_)
  · replace h := mm_ip hc h
    refine mm_Runs.seq (l := [(18, .iload 5, 2), (20, .goto 5, 3)]) (S2 := (25, [some (.ref 84), some (.int v1), some (.int v2), some (.int v3), some (.int v4), some (.int (v2 - v1)), some (.int (v3 - (4 : Int32))), none], [.int (v2 - v1), .ref 84], M)) (by decide +kernel) (hO := mm_own_264) rfl ?_
    exact (ms_264_j25 hd h hA : mp_264_25 L xs (d + 1) v1 v2 v3 v4 (v2 - v1) (v3 - (4 : Int32)) (v2 - v1) M o) none
  · replace h := mm_iq hc h
    refine mm_Runs.seq (l := [(23, .bipush 15, 2)]) (S2 := (25, [some (.ref 84), some (.int v1), some (.int v2), some (.int v3), some (.int v4), some (.int (v2 - v1)), some (.int (v3 - (4 : Int32))), none], [.int (15 : Int32), .ref 84], M)) (by decide +kernel) (hO := mm_own_264) rfl ?_
    exact (ms_264_j25 hd h hA : mp_264_25 L xs (d + 1) v1 v2 v3 v4 (v2 - v1) (v3 - (4 : Int32)) (15 : Int32) M o) none
-- 265: PlainPacksModel.packPieces()V (depth 3)
theorem mm_own_265 : mm_own 265 = 12 := rfl
def mp_265_4 (L : Nat) (xs : Nat → Int32) (d : Nat) (v1 : Int32) (v2 : Int32) (M : mm_M) (o : mm_E) : Prop := mm_Runs L xs d 265 (4, [some (.ref 84), some (.int v1), some (.int v2)], [], M) o
def mp_265_71 (L : Nat) (xs : Nat → Int32) (d : Nat) (v1 : Int32) (M : mm_M) (o : mm_E) : Prop := ∀ z2 : Option Value, mm_Runs L xs d 265 (71, [some (.ref 84), some (.int v1), z2], [], M) o
set_option maxRecDepth 8000 in
set_option maxHeartbeats 4000000 in
theorem ms_265_b4 {L : Nat} {xs : Nat → Int32} {d : Nat} (hd : 3 ≤ d) {v1 : Int32} {v2 : Int32} {M : mm_M} {q : (((Int32 × Int32) ⊕ (Int32)) ⊕ Nat) × mm_M} {o : mm_E} (h : mf_265_b4 v1 v2 M = some q) (hA : mm_A (mm_K2 (fun s M o => mp_265_4 L xs (d) s.1 s.2 M o) (fun r M o => mp_265_71 L xs (d) r M o)) q o) : mp_265_4 L xs d v1 v2 M o := by
  unfold mf_265_b4 at h
  obtain ⟨d, rfl⟩ := mm_d1 (n := 2) hd
  show mm_Runs L xs (d + 1) 265 (4, [some (.ref 84), some (.int v1), some (.int v2)], [], M) o
  refine mm_Runs.seq (l := [(4, .iload_n 2, 1), (5, .aload_n 0, 1), (6, .getfield 91, 3), (9, .bipush 12, 2), (11, .isub, 1)]) (S2 := (12, [some (.ref 84), some (.int v1), some (.int v2)], [.int ((M.1 84 2) - (12 : Int32)), .int v2], M)) (by decide +kernel) (hO := mm_own_265) rfl ?_
  refine mm_R_igt (t := 71) rfl rfl rfl (fun hc => ?_) (fun hc => ?_)
  · replace h := mm_ip hc h
    cases h
    exact (show mp_265_71 L xs (d + 1) v1 M o from hA) (some (.int v2))
  · replace h := mm_iq hc h
    refine mm_Runs.seq (l := [(15, .aload_n 0, 1), (16, .iload_n 2, 1), (17, .sipush 16384, 3), (20, .ldc 210, 2), (22, .aload_n 0, 1), (23, .getfield 91, 3), (26, .iconst 5, 1), (27, .isub, 1)]) (S2 := (28, [some (.ref 84), some (.int v1), some (.int v2)], [.int ((M.1 84 2) - (5 : Int32)), .int (65535 : Int32), .int (16384 : Int32), .int v2, .ref 84], M)) (by decide +kernel) (hO := mm_own_265) rfl ?_
    refine mm_R_call (v := mm_wv) h hA (k2 := 250) (as := [.ref 84, .int v2, .int (16384 : Int32), .int (65535 : Int32), .int ((M.1 84 2) - (5 : Int32))]) (r := []) rfl (fun _ => rfl) (fun q hq o ho => ms_250 (by omega) hq ho) (fun _ M1 h => ?_)
    show mm_Runs L xs (d + 1) 265 (31, [some (.ref 84), some (.int v1), some (.int v2)], [], M1) o
    refine mm_Runs.seq (l := [(31, .aload_n 0, 1), (32, .getfield 424, 3), (35, .iconst 4, 1)]) (S2 := (36, [some (.ref 84), some (.int v1), some (.int v2)], [.int (4 : Int32), .int (M1.1 84 44)], M1)) (by decide +kernel) (hO := mm_own_265) rfl ?_
    refine mm_R_ige (t := 45) rfl rfl rfl (fun hc => ?_) (fun hc => ?_)
    · replace h := mm_ip hc h
      refine mm_Runs.seq (l := [(39, .iinc 2 1, 3), (42, .goto (-38), 3)]) (S2 := (4, [some (.ref 84), some (.int v1), some (.int (v2 + (1 : Int32)))], [], M1)) (by decide +kernel) (hO := mm_own_265) rfl ?_
      cases h
      exact (show mp_265_4 L xs (d + 1) v1 (v2 + (1 : Int32)) M1 o from hA)
    · replace h := mm_iq hc h
      refine mm_Runs.seq (l := [(45, .aload_n 0, 1), (46, .iload_n 1, 1), (47, .iload_n 2, 1), (48, .aload_n 0, 1), (49, .getfield 424, 3), (52, .aload_n 0, 1), (53, .getfield 427, 3)]) (S2 := (56, [some (.ref 84), some (.int v1), some (.int v2)], [.int (M1.1 84 45), .int (M1.1 84 44), .int v2, .int v1, .ref 84], M1)) (by decide +kernel) (hO := mm_own_265) rfl ?_
      refine mm_R_call (v := mm_wv) h hA (k2 := 264) (as := [.ref 84, .int v1, .int v2, .int (M1.1 84 44), .int (M1.1 84 45)]) (r := []) rfl (fun _ => rfl) (fun q hq o ho => ms_264 (by omega) hq ho) (fun _ M2 h => ?_)
      show mm_Runs L xs (d + 1) 265 (59, [some (.ref 84), some (.int v1), some (.int v2)], [], M2) o
      refine mm_Runs.seq (l := [(59, .iload_n 2, 1), (60, .aload_n 0, 1), (61, .getfield 424, 3), (64, .iadd, 1), (65, .istore_n 2, 1), (66, .iload_n 2, 1), (67, .istore_n 1, 1), (68, .goto (-64), 3)]) (S2 := (4, [some (.ref 84), some (.int (v2 + (M2.1 84 44))), some (.int (v2 + (M2.1 84 44)))], [], M2)) (by decide +kernel) (hO := mm_own_265) rfl ?_
      cases h
      exact (show mp_265_4 L xs (d + 1) (v2 + (M2.1 84 44)) (v2 + (M2.1 84 44)) M2 o from hA)
theorem ms_265_L4 {L : Nat} {xs : Nat → Int32} {d : Nat} (hd : 3 ≤ d) {v1 : Int32} {v2 : Int32} {β : Type} {K : β → mm_M → mm_E → Prop} {F : (Int32) → mm_M → mm_O β} {M : mm_M} {q : (β ⊕ Nat) × mm_M} {o : mm_E} (h : mm_B (mf_265_L4 (v1, v2) M) F = some q) (hA : mm_A K q o) (hx : ∀ (r : (Int32)) (M2 : mm_M), F r M2 = some q → (fun r M o => mp_265_71 L xs (d) r M o) r M2 o) : mp_265_4 L xs d v1 v2 M o := by
  unfold mf_265_L4 at h
  exact mm_R_loop (step := (fun s M => mf_265_b4 s.1 s.2 M)) (s := (v1, v2)) (M := M) (P := (fun s M o => mp_265_4 L xs (d) s.1 s.2 M o)) (X := (fun r M o => mp_265_71 L xs (d) r M o)) h hA (fun s M q hq hA => ms_265_b4 (v1 := s.1) (v2 := s.2) (M := M) (q := q) hd hq hA) hx
set_option maxRecDepth 8000 in
set_option maxHeartbeats 4000000 in
theorem ms_265_j71 {L : Nat} {xs : Nat → Int32} {d : Nat} (hd : 3 ≤ d) {v1 : Int32} {M : mm_M} {q : (Unit ⊕ Nat) × mm_M} {o : mm_E} (h : mf_265_j71 v1 M = some q) (hA : mm_A (mm_Kr mm_wv) q o) : mp_265_71 L xs d v1 M o := by
  unfold mf_265_j71 at h
  obtain ⟨d, rfl⟩ := mm_d1 (n := 2) hd
  intro z2
  show mm_Runs L xs (d + 1) 265 (71, [some (.ref 84), some (.int v1), z2], [], M) o
  refine mm_Runs.seq (l := [(71, .aload_n 0, 1), (72, .iload_n 1, 1), (73, .aload_n 0, 1), (74, .getfield 91, 3), (77, .iconst 0, 1), (78, .iconst 0, 1)]) (S2 := (79, [some (.ref 84), some (.int v1), z2], [.int (0 : Int32), .int (0 : Int32), .int (M.1 84 2), .int v1, .ref 84], M)) (by decide +kernel) (hO := mm_own_265) rfl ?_
  refine mm_R_call (v := mm_wv) h hA (k2 := 264) (as := [.ref 84, .int v1, .int (M.1 84 2), .int (0 : Int32), .int (0 : Int32)]) (r := []) rfl (fun _ => rfl) (fun q hq o ho => ms_264 (by omega) hq ho) (fun _ M1 h => ?_)
  show mm_Runs L xs (d + 1) 265 (82, [some (.ref 84), some (.int v1), z2], [], M1) o
  cases h
  exact mm_R_retv rfl rfl hA
set_option maxRecDepth 8000 in
set_option maxHeartbeats 4000000 in
theorem ms_265 {L : Nat} {xs : Nat → Int32} {d : Nat} (hd : 3 ≤ d) {M : mm_M} {q : (Unit ⊕ Nat) × mm_M} {o : mm_E} (h : mf_265 M = some q) (hA : mm_A (mm_Kr mm_wv) q o) : mm_Runs L xs d 265 (0, mm_ent (mm_ml 265) [.ref 84], [], M) o := by
  unfold mf_265 at h
  obtain ⟨d, rfl⟩ := mm_d1 (n := 2) hd
  show mm_Runs L xs (d + 1) 265 (0, [some (.ref 84), none, none], [], M) o
  refine mm_Runs.seq (l := [(0, .iconst 0, 1), (1, .istore_n 1, 1), (2, .iconst 0, 1), (3, .istore_n 2, 1)]) (S2 := (4, [some (.ref 84), some (.int (0 : Int32)), some (.int (0 : Int32))], [], M)) (by decide +kernel) (hO := mm_own_265) rfl ?_
  have hp : mp_265_4 L xs (d + 1) (0 : Int32) (0 : Int32) M o := by
    refine ms_265_L4 hd h hA (fun r2 M1 h => ?_)
    intro y3
    show mm_Runs L xs (d + 1) 265 (71, [some (.ref 84), some (.int r2), y3], [], M1) o
    exact (ms_265_j71 hd h hA : mp_265_71 L xs (d + 1) r2 M1 o) y3
  exact hp
