/-! MEANINGS ARE SOUND 31 -/
-- 250: PlainPacksModel.look(IIII)V (depth 0)
theorem mm_own_250 : mm_own 250 = 12 := rfl
def mp_250_31 (L : Nat) (xs : Nat → Int32) (d : Nat) (v1 : Int32) (v3 : Int32) (v5 : Int32) (v6 : Int32) (M : mm_M) (o : mm_E) : Prop := ∀ z2 z4 z7 : Option Value, mm_Runs L xs d 250 (31, [some (.ref 84), some (.int v1), z2, some (.int v3), z4, some (.int v5), some (.int v6), z7], [], M) o
def mp_250_119 (L : Nat) (xs : Nat → Int32) (d : Nat) (M : mm_M) (o : mm_E) : Prop := ∀ z0 z1 z2 z3 z4 z5 z6 z7 : Option Value, mm_Runs L xs d 250 (119, [z0, z1, z2, z3, z4, z5, z6, z7], [], M) o
def mp_250_55 (L : Nat) (xs : Nat → Int32) (d : Nat) (v1 : Int32) (v3 : Int32) (v5 : Int32) (v6 : Int32) (v7 : Int32) (M : mm_M) (o : mm_E) : Prop := ∀ z2 z4 : Option Value, mm_Runs L xs d 250 (55, [some (.ref 84), some (.int v1), z2, some (.int v3), z4, some (.int v5), some (.int v6), some (.int v7)], [], M) o
def mp_250_92 (L : Nat) (xs : Nat → Int32) (d : Nat) (v1 : Int32) (v3 : Int32) (v5 : Int32) (v6 : Int32) (v7 : Int32) (M : mm_M) (o : mm_E) : Prop := ∀ z2 z4 : Option Value, mm_Runs L xs d 250 (92, [some (.ref 84), some (.int v1), z2, some (.int v3), z4, some (.int v5), some (.int v6), some (.int v7)], [], M) o
set_option maxRecDepth 8000 in
set_option maxHeartbeats 4000000 in
theorem ms_250_b55 {L : Nat} {xs : Nat → Int32} {d : Nat} (hd : 0 ≤ d) {v1 : Int32} {v3 : Int32} {v5 : Int32} {v6 : Int32} {v7 : Int32} {M : mm_M} {q : (((Int32) ⊕ (Int32)) ⊕ Nat) × mm_M} {o : mm_E} (h : mf_250_b55 v1 v3 v5 v6 v7 M = some q) (hA : mm_A (mm_K2 (fun s M o => mp_250_55 L xs (d) v1 v3 v5 v6 s M o) (fun r M o => mp_250_92 L xs (d) v1 v3 v5 v6 r M o)) q o) : mp_250_55 L xs d v1 v3 v5 v6 v7 M o := by
  unfold mf_250_b55 at h
  intro z2 z4
  show mm_Runs L xs (d) 250 (55, [some (.ref 84), some (.int v1), z2, some (.int v3), z4, some (.int v5), some (.int v6), some (.int v7)], [], M) o
  refine mm_Runs.seq (l := [(55, .iload 7, 2), (57, .iload 5, 2)]) (S2 := (59, [some (.ref 84), some (.int v1), z2, some (.int v3), z4, some (.int v5), some (.int v6), some (.int v7)], [.int v5, .int v7], M)) (by decide +kernel) (hO := mm_own_250) rfl ?_
  refine mm_R_ige (t := 92) rfl rfl rfl (fun hc => ?_) (fun hc => ?_)
  · replace h := mm_ip hc h
    refine mm_Runs.seq (l := [(62, .aload_n 0, 1), (63, .getfield 7, 3), (66, .iload_n 1, 1), (67, .iload 7, 2), (69, .iadd, 1)]) (S2 := (70, [some (.ref 84), some (.int v1), z2, some (.int v3), z4, some (.int v5), some (.int v6), some (.int v7)], [.int (v1 + v7), .ref 85], M)) (by decide +kernel) (hO := mm_own_250) rfl ?_
    obtain ⟨hb, h⟩ := mm_gd h
    refine mm_R_iald rfl rfl hb ?_
    refine mm_Runs.seq (l := [(71, .aload_n 0, 1), (72, .getfield 7, 3), (75, .iload_n 1, 1), (76, .iload 7, 2), (78, .iadd, 1), (79, .iload 6, 2), (81, .isub, 1)]) (S2 := (82, [some (.ref 84), some (.int v1), z2, some (.int v3), z4, some (.int v5), some (.int v6), some (.int v7)], [.int ((v1 + v7) - v6), .ref 85, .int (M.1 85 (v1 + v7).toNatClampNeg)], M)) (by decide +kernel) (hO := mm_own_250) rfl ?_
    obtain ⟨hb, h⟩ := mm_gd h
    refine mm_R_iald rfl rfl hb ?_
    refine mm_R_ine (t := 92) rfl rfl rfl (fun hc => ?_) (fun hc => ?_)
    · replace h := mm_ip hc h
      refine mm_Runs.seq (l := [(86, .iinc 7 1, 3), (89, .goto (-34), 3)]) (S2 := (55, [some (.ref 84), some (.int v1), z2, some (.int v3), z4, some (.int v5), some (.int v6), some (.int (v7 + (1 : Int32)))], [], M)) (by decide +kernel) (hO := mm_own_250) rfl ?_
      cases h
      exact (show mp_250_55 L xs (d) v1 v3 v5 v6 (v7 + (1 : Int32)) M o from hA) z2 z4
    · replace h := mm_iq hc h
      cases h
      exact (show mp_250_92 L xs (d) v1 v3 v5 v6 v7 M o from hA) z2 z4
  · replace h := mm_iq hc h
    cases h
    exact (show mp_250_92 L xs (d) v1 v3 v5 v6 v7 M o from hA) z2 z4
theorem ms_250_L55 {L : Nat} {xs : Nat → Int32} {d : Nat} (hd : 0 ≤ d) {v1 : Int32} {v3 : Int32} {v5 : Int32} {v6 : Int32} {v7 : Int32} {β : Type} {K : β → mm_M → mm_E → Prop} {F : (Int32) → mm_M → mm_O β} {M : mm_M} {q : (β ⊕ Nat) × mm_M} {o : mm_E} (h : mm_B (mf_250_L55 v1 v3 v5 v6 v7 M) F = some q) (hA : mm_A K q o) (hx : ∀ (r : (Int32)) (M2 : mm_M), F r M2 = some q → (fun r M o => mp_250_92 L xs (d) v1 v3 v5 v6 r M o) r M2 o) : mp_250_55 L xs d v1 v3 v5 v6 v7 M o := by
  unfold mf_250_L55 at h
  exact mm_R_loop (step := (fun s M => mf_250_b55 v1 v3 v5 v6 s M)) (s := v7) (M := M) (P := (fun s M o => mp_250_55 L xs (d) v1 v3 v5 v6 s M o)) (X := (fun r M o => mp_250_92 L xs (d) v1 v3 v5 v6 r M o)) h hA (fun s M q hq hA => ms_250_b55 (v1 := v1) (v3 := v3) (v5 := v5) (v6 := v6) (v7 := s) (M := M) (q := q) hd hq hA) hx
set_option maxRecDepth 8000 in
set_option maxHeartbeats 4000000 in
theorem ms_250_j92 {L : Nat} {xs : Nat → Int32} {d : Nat} (hd : 0 ≤ d) {v1 : Int32} {v3 : Int32} {v5 : Int32} {v6 : Int32} {v7 : Int32} {M : mm_M} {q : (((Int32) ⊕ (Unit)) ⊕ Nat) × mm_M} {o : mm_E} (h : mf_250_j92 v1 v3 v5 v6 v7 M = some q) (hA : mm_A (mm_K2 (fun s M o => mp_250_31 L xs (d) v1 v3 v5 s M o) (fun r M o => mp_250_119 L xs (d) M o)) q o) : mp_250_92 L xs d v1 v3 v5 v6 v7 M o := by
  unfold mf_250_j92 at h
  intro z2 z4
  show mm_Runs L xs (d) 250 (92, [some (.ref 84), some (.int v1), z2, some (.int v3), z4, some (.int v5), some (.int v6), some (.int v7)], [], M) o
  refine mm_Runs.seq (l := [(92, .iload 7, 2), (94, .aload_n 0, 1), (95, .getfield 424, 3)]) (S2 := (98, [some (.ref 84), some (.int v1), z2, some (.int v3), z4, some (.int v5), some (.int v6), some (.int v7)], [.int (M.1 84 44), .int v7], M)) (by decide +kernel) (hO := mm_own_250) rfl ?_
  refine mm_R_ile (t := 113) rfl rfl rfl (fun hc => ?_) (fun hc => ?_)
  · replace h := mm_ip hc h
    refine mm_Runs.seq (l := [(101, .aload_n 0, 1), (102, .iload 7, 2), (104, .putfield 424, 3), (107, .aload_n 0, 1), (108, .iload 6, 2), (110, .putfield 427, 3), (113, .iinc 6 1, 3), (116, .goto (-85), 3)]) (S2 := (31, [some (.ref 84), some (.int v1), z2, some (.int v3), z4, some (.int v5), some (.int (v6 + (1 : Int32))), some (.int v7)], [], (mm_pi (mm_pi M 84 44 v7) 84 45 v6))) (by decide +kernel) (hO := mm_own_250) rfl ?_
    cases h
    exact (show mp_250_31 L xs (d) v1 v3 v5 (v6 + (1 : Int32)) (mm_pi (mm_pi M 84 44 v7) 84 45 v6) o from hA) z2 z4 (some (.int v7))
  · replace h := mm_iq hc h
    refine mm_Runs.seq (l := [(113, .iinc 6 1, 3), (116, .goto (-85), 3)]) (S2 := (31, [some (.ref 84), some (.int v1), z2, some (.int v3), z4, some (.int v5), some (.int (v6 + (1 : Int32))), some (.int v7)], [], M)) (by decide +kernel) (hO := mm_own_250) rfl ?_
    cases h
    exact (show mp_250_31 L xs (d) v1 v3 v5 (v6 + (1 : Int32)) M o from hA) z2 z4 (some (.int v7))
set_option maxRecDepth 8000 in
set_option maxHeartbeats 4000000 in
theorem ms_250_b31 {L : Nat} {xs : Nat → Int32} {d : Nat} (hd : 0 ≤ d) {v1 : Int32} {v3 : Int32} {v5 : Int32} {v6 : Int32} {M : mm_M} {q : (((Int32) ⊕ (Unit)) ⊕ Nat) × mm_M} {o : mm_E} (h : mf_250_b31 v1 v3 v5 v6 M = some q) (hA : mm_A (mm_K2 (fun s M o => mp_250_31 L xs (d) v1 v3 v5 s M o) (fun r M o => mp_250_119 L xs (d) M o)) q o) : mp_250_31 L xs d v1 v3 v5 v6 M o := by
  unfold mf_250_b31 at h
  intro z2 z4 z7
  show mm_Runs L xs (d) 250 (31, [some (.ref 84), some (.int v1), z2, some (.int v3), z4, some (.int v5), some (.int v6), z7], [], M) o
  refine mm_Runs.seq (l := [(31, .iload 6, 2), (33, .iload_n 3, 1)]) (S2 := (34, [some (.ref 84), some (.int v1), z2, some (.int v3), z4, some (.int v5), some (.int v6), z7], [.int v3, .int v6], M)) (by decide +kernel) (hO := mm_own_250) rfl ?_
  refine mm_R_igt (t := 119) rfl rfl rfl (fun hc => ?_) (fun hc => ?_)
  · replace h := mm_ip hc h
    cases h
    exact (show mp_250_119 L xs (d) M o from hA) (some (.ref 84)) (some (.int v1)) z2 (some (.int v3)) z4 (some (.int v5)) (some (.int v6)) z7
  · replace h := mm_iq hc h
    refine mm_Runs.seq (l := [(37, .iload 6, 2), (39, .iload_n 1, 1)]) (S2 := (40, [some (.ref 84), some (.int v1), z2, some (.int v3), z4, some (.int v5), some (.int v6), z7], [.int v1, .int v6], M)) (by decide +kernel) (hO := mm_own_250) rfl ?_
    refine mm_R_igt (t := 119) rfl rfl rfl (fun hc => ?_) (fun hc => ?_)
    · replace h := mm_ip hc h
      cases h
      exact (show mp_250_119 L xs (d) M o from hA) (some (.ref 84)) (some (.int v1)) z2 (some (.int v3)) z4 (some (.int v5)) (some (.int v6)) z7
    · replace h := mm_iq hc h
      refine mm_Runs.seq (l := [(43, .aload_n 0, 1), (44, .getfield 424, 3), (47, .iload 5, 2)]) (S2 := (49, [some (.ref 84), some (.int v1), z2, some (.int v3), z4, some (.int v5), some (.int v6), z7], [.int v5, .int (M.1 84 44)], M)) (by decide +kernel) (hO := mm_own_250) rfl ?_
      refine mm_R_ige (t := 119) rfl rfl rfl (fun hc => ?_) (fun hc => ?_)
      · replace h := mm_ip hc h
        refine mm_Runs.seq (l := [(52, .iconst 0, 1), (53, .istore 7, 2)]) (S2 := (55, [some (.ref 84), some (.int v1), z2, some (.int v3), z4, some (.int v5), some (.int v6), some (.int (0 : Int32))], [], M)) (by decide +kernel) (hO := mm_own_250) rfl ?_
        have hp : mp_250_55 L xs (d) v1 v3 v5 v6 (0 : Int32) M o := by
          refine ms_250_L55 hd h hA (fun r2 M1 h => ?_)
          intro y3 y4
          show mm_Runs L xs (d) 250 (92, [some (.ref 84), some (.int v1), y3, some (.int v3), y4, some (.int v5), some (.int v6), some (.int r2)], [], M1) o
          exact (ms_250_j92 hd h hA : mp_250_92 L xs (d) v1 v3 v5 v6 r2 M1 o) y3 y4
        exact hp z2 z4
      · replace h := mm_iq hc h
        cases h
        exact (show mp_250_119 L xs (d) M o from hA) (some (.ref 84)) (some (.int v1)) z2 (some (.int v3)) z4 (some (.int v5)) (some (.int v6)) z7
theorem ms_250_L31 {L : Nat} {xs : Nat → Int32} {d : Nat} (hd : 0 ≤ d) {v1 : Int32} {v3 : Int32} {v5 : Int32} {v6 : Int32} {β : Type} {K : β → mm_M → mm_E → Prop} {F : (Unit) → mm_M → mm_O β} {M : mm_M} {q : (β ⊕ Nat) × mm_M} {o : mm_E} (h : mm_B (mf_250_L31 v1 v3 v5 v6 M) F = some q) (hA : mm_A K q o) (hx : ∀ (r : (Unit)) (M2 : mm_M), F r M2 = some q → (fun r M o => mp_250_119 L xs (d) M o) r M2 o) : mp_250_31 L xs d v1 v3 v5 v6 M o := by
  unfold mf_250_L31 at h
  exact mm_R_loop (step := (fun s M => mf_250_b31 v1 v3 v5 s M)) (s := v6) (M := M) (P := (fun s M o => mp_250_31 L xs (d) v1 v3 v5 s M o)) (X := (fun r M o => mp_250_119 L xs (d) M o)) h hA (fun s M q hq hA => ms_250_b31 (v1 := v1) (v3 := v3) (v5 := v5) (v6 := s) (M := M) (q := q) hd hq hA) hx
set_option maxRecDepth 8000 in
set_option maxHeartbeats 4000000 in
theorem ms_250 {L : Nat} {xs : Nat → Int32} {d : Nat} (hd : 0 ≤ d) {v1 : Int32} {v2 : Int32} {v3 : Int32} {v4 : Int32} {M : mm_M} {q : (Unit ⊕ Nat) × mm_M} {o : mm_E} (h : mf_250 v1 v2 v3 v4 M = some q) (hA : mm_A (mm_Kr mm_wv) q o) : mm_Runs L xs d 250 (0, mm_ent (mm_ml 250) [.ref 84, .int v1, .int v2, .int v3, .int v4], [], M) o := by
  unfold mf_250 at h
  show mm_Runs L xs (d) 250 (0, [some (.ref 84), some (.int v1), some (.int v2), some (.int v3), some (.int v4), none, none, none], [], M) o
  refine mm_Runs.seq (l := [(0, .aload_n 0, 1), (1, .iconst 0, 1), (2, .putfield 424, 3), (5, .aload_n 0, 1), (6, .iconst 0, 1), (7, .putfield 427, 3), (10, .iload 4, 2), (12, .iload_n 1, 1), (13, .isub, 1), (14, .iload_n 2, 1)]) (S2 := (15, [some (.ref 84), some (.int v1), some (.int v2), some (.int v3), some (.int v4), none, none, none], [.int v2, .int (v4 - v1)], (mm_pi (mm_pi M 84 44 (0 : Int32)) 84 45 (0 : Int32)))) (by decide +kernel) (hO := mm_own_250) rfl ?_
  refine mm_R_ige (t := 25) rfl rfl rfl (fun hc => ?_) (fun hc => ?_)
  · replace h := mm_ip hc h
    refine mm_Runs.seq (l := [(18, .iload 4, 2), (20, .iload_n 1, 1), (21, .isub, 1), (22, .goto 4, 3), (26, .istore 5, 2), (28, .iconst 1, 1), (29, .istore 6, 2)]) (S2 := (31, [some (.ref 84), some (.int v1), some (.int v2), some (.int v3), some (.int v4), some (.int (v4 - v1)), some (.int (1 : Int32)), none], [], (mm_pi (mm_pi M 84 44 (0 : Int32)) 84 45 (0 : Int32)))) (by decide +kernel) (hO := mm_own_250) rfl ?_
    have hp : mp_250_31 L xs (d) v1 v3 (v4 - v1) (1 : Int32) (mm_pi (mm_pi M 84 44 (0 : Int32)) 84 45 (0 : Int32)) o := by
      refine ms_250_L31 hd h hA (fun r2 M1 h => ?_)
      intro y3 y4 y5 y6 y7 y8 y9 y10
      show mm_Runs L xs (d) 250 (119, [y3, y4, y5, y6, y7, y8, y9, y10], [], M1) o
      cases h
      exact mm_R_retv rfl rfl hA
    exact hp (some (.int v2)) (some (.int v4)) none
  · replace h := mm_iq hc h
    refine mm_Runs.seq (l := [(25, .iload_n 2, 1), (26, .istore 5, 2), (28, .iconst 1, 1), (29, .istore 6, 2)]) (S2 := (31, [some (.ref 84), some (.int v1), some (.int v2), some (.int v3), some (.int v4), some (.int v2), some (.int (1 : Int32)), none], [], (mm_pi (mm_pi M 84 44 (0 : Int32)) 84 45 (0 : Int32)))) (by decide +kernel) (hO := mm_own_250) rfl ?_
    have hp : mp_250_31 L xs (d) v1 v3 v2 (1 : Int32) (mm_pi (mm_pi M 84 44 (0 : Int32)) 84 45 (0 : Int32)) o := by
      refine ms_250_L31 hd h hA (fun r12 M11 h => ?_)
      intro y13 y14 y15 y16 y17 y18 y19 y20
      show mm_Runs L xs (d) 250 (119, [y13, y14, y15, y16, y17, y18, y19, y20], [], M11) o
      cases h
      exact mm_R_retv rfl rfl hA
    exact hp (some (.int v2)) (some (.int v4)) none
-- 253: PlainPacksModel.writeLetter(I)V (depth 4)
theorem mm_own_253 : mm_own 253 = 12 := rfl
set_option maxRecDepth 8000 in
set_option maxHeartbeats 4000000 in
theorem ms_253 {L : Nat} {xs : Nat → Int32} {d : Nat} (hd : 4 ≤ d) {v1 : Int32} {M : mm_M} {q : (Unit ⊕ Nat) × mm_M} {o : mm_E} (h : mf_253 v1 M = some q) (hA : mm_A (mm_Kr mm_wv) q o) : mm_Runs L xs d 253 (0, mm_ent (mm_ml 253) [.ref 84, .int v1], [], M) o := by
  unfold mf_253 at h
  obtain ⟨d, rfl⟩ := mm_d1 (n := 3) hd
  show mm_Runs L xs (d + 1) 253 (0, [some (.ref 84), some (.int v1)], [], M) o
  refine mm_Runs.seq (l := [(0, .aload_n 0, 1), (1, .aload_n 0, 1), (2, .getfield 19, 3), (5, .iload_n 1, 1)]) (S2 := (6, [some (.ref 84), some (.int v1)], [.int v1, .ref 88, .ref 84], M)) (by decide +kernel) (hO := mm_own_253) rfl ?_
  obtain ⟨hb, h⟩ := mm_gd h
  refine mm_R_iald rfl rfl hb ?_
  refine mm_Runs.seq (l := [(7, .i2l, 1), (8, .aload_n 0, 1), (9, .getfield 16, 3), (12, .iload_n 1, 1)]) (S2 := (13, [some (.ref 84), some (.int v1)], [.int v1, .ref 87, .long (M.1 88 v1.toNatClampNeg).toInt64, .ref 84], M)) (by decide +kernel) (hO := mm_own_253) rfl ?_
  obtain ⟨hb, h⟩ := mm_gd h
  refine mm_R_iald rfl rfl hb ?_
  refine mm_Runs.seq (l := [(14, .iconst 1, 1)]) (S2 := (15, [some (.ref 84), some (.int v1)], [.int (1 : Int32), .int (M.1 87 v1.toNatClampNeg), .long (M.1 88 v1.toNatClampNeg).toInt64, .ref 84], M)) (by decide +kernel) (hO := mm_own_253) rfl ?_
  refine mm_R_call (v := mm_wv) h hA (k2 := 249) (as := [.ref 84, .long (M.1 88 v1.toNatClampNeg).toInt64, .int (M.1 87 v1.toNatClampNeg), .int (1 : Int32)]) (r := []) rfl (fun _ => rfl) (fun q hq o ho => ms_249 (by omega) hq ho) (fun _ M1 h => ?_)
  show mm_Runs L xs (d + 1) 253 (18, [some (.ref 84), some (.int v1)], [], M1) o
  cases h
  exact mm_R_retv rfl rfl hA
-- 255: PlainPacksModel.leastLength(I)I (depth 0)
theorem mm_own_255 : mm_own 255 = 12 := rfl
set_option maxRecDepth 8000 in
set_option maxHeartbeats 4000000 in
theorem ms_255 {L : Nat} {xs : Nat → Int32} {d : Nat} (hd : 0 ≤ d) {v0 : Int32} {M : mm_M} {q : (Int32 ⊕ Nat) × mm_M} {o : mm_E} (h : mf_255 v0 M = some q) (hA : mm_A (mm_Kr mm_wi) q o) : mm_Runs L xs d 255 (0, mm_ent (mm_ml 255) [.int v0], [], M) o := by
  unfold mf_255 at h
  show mm_Runs L xs (d) 255 (0, [some (.int v0)], [], M) o
  refine mm_Runs.seq (l := [(0, .iload_n 0, 1), (1, .sipush 265, 3)]) (S2 := (4, [some (.int v0)], [.int (265 : Int32), .int v0], M)) (by decide +kernel) (hO := mm_own_255) rfl ?_
  refine mm_R_ige (t := 15) rfl rfl rfl (fun hc => ?_) (fun hc => ?_)
  · replace h := mm_ip hc h
    refine mm_Runs.seq (l := [(7, .iload_n 0, 1), (8, .sipush 254, 3), (11, .isub, 1), (12, .goto 22, 3)]) (S2 := (34, [some (.int v0)], [.int (v0 - (254 : Int32))], M)) (by decide +kernel) (hO := mm_own_255) rfl ?_
    cases h
    exact mm_R_reti rfl rfl hA
  · replace h := mm_iq hc h
    refine mm_Runs.seq (l := [(15, .iconst 3, 1), (16, .iconst 4, 1), (17, .iload_n 0, 1), (18, .sipush 265, 3), (21, .isub, 1), (22, .iconst 4, 1), (23, .irem, 1), (24, .iadd, 1), (25, .iload_n 0, 1), (26, .sipush 261, 3), (29, .isub, 1), (30, .iconst 4, 1), (31, .idiv, 1), (32, .ishl, 1), (33, .iadd, 1)]) (S2 := (34, [some (.int v0)], [.int ((3 : Int32) + (mm_shl ((4 : Int32) + (mm_rem (v0 - (265 : Int32)) (4 : Int32))) ((v0 - (261 : Int32)) / (4 : Int32))))], M)) (by decide +kernel) (hO := mm_own_255) rfl ?_
    cases h
    exact mm_R_reti rfl rfl hA
-- 254: PlainPacksModel.letterOf(I)I (depth 1)
theorem mm_own_254 : mm_own 254 = 12 := rfl
def mp_254_15 (L : Nat) (xs : Nat → Int32) (d : Nat) (v0 : Int32) (v1 : Int32) (M : mm_M) (o : mm_E) : Prop := mm_Runs L xs d 254 (15, [some (.int v0), some (.int v1)], [], M) o
def mp_254_38 (L : Nat) (xs : Nat → Int32) (d : Nat) (v1 : Int32) (M : mm_M) (o : mm_E) : Prop := ∀ z0 : Option Value, mm_Runs L xs d 254 (38, [z0, some (.int v1)], [], M) o
set_option maxRecDepth 8000 in
set_option maxHeartbeats 4000000 in
theorem ms_254_b15 {L : Nat} {xs : Nat → Int32} {d : Nat} (hd : 1 ≤ d) {v0 : Int32} {v1 : Int32} {M : mm_M} {q : (((Int32) ⊕ (Int32)) ⊕ Nat) × mm_M} {o : mm_E} (h : mf_254_b15 v0 v1 M = some q) (hA : mm_A (mm_K2 (fun s M o => mp_254_15 L xs (d) v0 s M o) (fun r M o => mp_254_38 L xs (d) r M o)) q o) : mp_254_15 L xs d v0 v1 M o := by
  unfold mf_254_b15 at h
  obtain ⟨d, rfl⟩ := mm_d1 (n := 0) hd
  show mm_Runs L xs (d + 1) 254 (15, [some (.int v0), some (.int v1)], [], M) o
  refine mm_Runs.seq (l := [(15, .iload_n 1, 1), (16, .sipush 284, 3)]) (S2 := (19, [some (.int v0), some (.int v1)], [.int (284 : Int32), .int v1], M)) (by decide +kernel) (hO := mm_own_254) rfl ?_
  refine mm_R_ige (t := 38) rfl rfl rfl (fun hc => ?_) (fun hc => ?_)
  · replace h := mm_ip hc h
    refine mm_Runs.seq (l := [(22, .iload_n 1, 1), (23, .iconst 1, 1), (24, .iadd, 1)]) (S2 := (25, [some (.int v0), some (.int v1)], [.int (v1 + (1 : Int32))], M)) (by decide +kernel) (hO := mm_own_254) rfl ?_
    refine mm_R_call (v := mm_wi) h hA (k2 := 255) (as := [.int (v1 + (1 : Int32))]) (r := []) rfl (fun _ => rfl) (fun q hq o ho => ms_255 (by omega) hq ho) (fun r1 M2 h => ?_)
    show mm_Runs L xs (d + 1) 254 (28, [some (.int v0), some (.int v1)], [.int r1], M2) o
    refine mm_Runs.seq (l := [(28, .iload_n 0, 1)]) (S2 := (29, [some (.int v0), some (.int v1)], [.int v0, .int r1], M2)) (by decide +kernel) (hO := mm_own_254) rfl ?_
    refine mm_R_igt (t := 38) rfl rfl rfl (fun hc => ?_) (fun hc => ?_)
    · replace h := mm_ip hc h
      cases h
      exact (show mp_254_38 L xs (d + 1) v1 M2 o from hA) (some (.int v0))
    · replace h := mm_iq hc h
      refine mm_Runs.seq (l := [(32, .iinc 1 1, 3), (35, .goto (-20), 3)]) (S2 := (15, [some (.int v0), some (.int (v1 + (1 : Int32)))], [], M2)) (by decide +kernel) (hO := mm_own_254) rfl ?_
      cases h
      exact (show mp_254_15 L xs (d + 1) v0 (v1 + (1 : Int32)) M2 o from hA)
  · replace h := mm_iq hc h
    cases h
    exact (show mp_254_38 L xs (d + 1) v1 M o from hA) (some (.int v0))
theorem ms_254_L15 {L : Nat} {xs : Nat → Int32} {d : Nat} (hd : 1 ≤ d) {v0 : Int32} {v1 : Int32} {β : Type} {K : β → mm_M → mm_E → Prop} {F : (Int32) → mm_M → mm_O β} {M : mm_M} {q : (β ⊕ Nat) × mm_M} {o : mm_E} (h : mm_B (mf_254_L15 v0 v1 M) F = some q) (hA : mm_A K q o) (hx : ∀ (r : (Int32)) (M2 : mm_M), F r M2 = some q → (fun r M o => mp_254_38 L xs (d) r M o) r M2 o) : mp_254_15 L xs d v0 v1 M o := by
  unfold mf_254_L15 at h
  exact mm_R_loop (step := (fun s M => mf_254_b15 v0 s M)) (s := v1) (M := M) (P := (fun s M o => mp_254_15 L xs (d) v0 s M o)) (X := (fun r M o => mp_254_38 L xs (d) r M o)) h hA (fun s M q hq hA => ms_254_b15 (v0 := v0) (v1 := s) (M := M) (q := q) hd hq hA) hx
set_option maxRecDepth 8000 in
set_option maxHeartbeats 4000000 in
theorem ms_254 {L : Nat} {xs : Nat → Int32} {d : Nat} (hd : 1 ≤ d) {v0 : Int32} {M : mm_M} {q : (Int32 ⊕ Nat) × mm_M} {o : mm_E} (h : mf_254 v0 M = some q) (hA : mm_A (mm_Kr mm_wi) q o) : mm_Runs L xs d 254 (0, mm_ent (mm_ml 254) [.int v0], [], M) o := by
  unfold mf_254 at h
  obtain ⟨d, rfl⟩ := mm_d1 (n := 0) hd
  show mm_Runs L xs (d + 1) 254 (0, [some (.int v0), none], [], M) o
  refine mm_Runs.seq (l := [(0, .iload_n 0, 1), (1, .sipush 258, 3)]) (S2 := (4, [some (.int v0), none], [.int (258 : Int32), .int v0], M)) (by decide +kernel) (hO := mm_own_254) rfl ?_
  refine mm_R_ine (t := 11) rfl rfl rfl (fun hc => ?_) (fun hc => ?_)
  · replace h := mm_ip hc h
    refine mm_Runs.seq (l := [(7, .sipush 285, 3)]) (S2 := (10, [some (.int v0), none], [.int (285 : Int32)], M)) (by decide +kernel) (hO := mm_own_254) rfl ?_
    cases h
    exact mm_R_reti rfl rfl hA
  · replace h := mm_iq hc h
    refine mm_Runs.seq (l := [(11, .sipush 257, 3), (14, .istore_n 1, 1)]) (S2 := (15, [some (.int v0), some (.int (257 : Int32))], [], M)) (by decide +kernel) (hO := mm_own_254) rfl ?_
    have hp : mp_254_15 L xs (d + 1) v0 (257 : Int32) M o := by
      refine ms_254_L15 hd h hA (fun r2 M1 h => ?_)
      intro y3
      show mm_Runs L xs (d + 1) 254 (38, [y3, some (.int r2)], [], M1) o
      refine mm_Runs.seq (l := [(38, .iload_n 1, 1)]) (S2 := (39, [y3, some (.int r2)], [.int r2], M1)) (by decide +kernel) (hO := mm_own_254) rfl ?_
      cases h
      exact mm_R_reti rfl rfl hA
    exact hp
-- 258: PlainPacksModel.moreBits(I)I (depth 0)
theorem mm_own_258 : mm_own 258 = 12 := rfl
set_option maxRecDepth 8000 in
set_option maxHeartbeats 4000000 in
theorem ms_258 {L : Nat} {xs : Nat → Int32} {d : Nat} (hd : 0 ≤ d) {v0 : Int32} {M : mm_M} {q : (Int32 ⊕ Nat) × mm_M} {o : mm_E} (h : mf_258 v0 M = some q) (hA : mm_A (mm_Kr mm_wi) q o) : mm_Runs L xs d 258 (0, mm_ent (mm_ml 258) [.int v0], [], M) o := by
  unfold mf_258 at h
  show mm_Runs L xs (d) 258 (0, [some (.int v0)], [], M) o
  refine mm_Runs.seq (l := [(0, .iload_n 0, 1), (1, .sipush 265, 3)]) (S2 := (4, [some (.int v0)], [.int (265 : Int32), .int v0], M)) (by decide +kernel) (hO := mm_own_258) rfl ?_
  refine mm_R_ilt (t := 14) rfl rfl rfl (fun hc => ?_) (fun hc => ?_)
  · replace h := mm_ip hc h
    refine mm_Runs.seq (l := [(14, .iconst 0, 1), (15, .goto 10, 3)]) (S2 := (25, [some (.int v0)], [.int (0 : Int32)], M)) (by decide +kernel) (hO := mm_own_258) rfl ?_
    cases h
    exact mm_R_reti rfl rfl hA
  · replace h := mm_iq hc h
    refine mm_Runs.seq (l := [(7, .iload_n 0, 1), (8, .sipush 285, 3)]) (S2 := (11, [some (.int v0)], [.int (285 : Int32), .int v0], M)) (by decide +kernel) (hO := mm_own_258) rfl ?_
    refine mm_R_ine (t := 18) rfl rfl rfl (fun hc => ?_) (fun hc => ?_)
    · replace h := mm_ip hc h
      refine mm_Runs.seq (l := [(14, .iconst 0, 1), (15, .goto 10, 3)]) (S2 := (25, [some (.int v0)], [.int (0 : Int32)], M)) (by decide +kernel) (hO := mm_own_258) rfl ?_
      cases h
      exact mm_R_reti rfl rfl hA
    · replace h := mm_iq hc h
      refine mm_Runs.seq (l := [(18, .iload_n 0, 1), (19, .sipush 261, 3), (22, .isub, 1), (23, .iconst 4, 1), (24, .idiv, 1)]) (S2 := (25, [some (.int v0)], [.int ((v0 - (261 : Int32)) / (4 : Int32))], M)) (by decide +kernel) (hO := mm_own_258) rfl ?_
      cases h
      exact mm_R_reti rfl rfl hA
-- 256: PlainPacksModel.leastDistance(I)I (depth 0)
theorem mm_own_256 : mm_own 256 = 12 := rfl
set_option maxRecDepth 8000 in
set_option maxHeartbeats 4000000 in
theorem ms_256 {L : Nat} {xs : Nat → Int32} {d : Nat} (hd : 0 ≤ d) {v0 : Int32} {M : mm_M} {q : (Int32 ⊕ Nat) × mm_M} {o : mm_E} (h : mf_256 v0 M = some q) (hA : mm_A (mm_Kr mm_wi) q o) : mm_Runs L xs d 256 (0, mm_ent (mm_ml 256) [.int v0], [], M) o := by
  unfold mf_256 at h
  show mm_Runs L xs (d) 256 (0, [some (.int v0)], [], M) o
  refine mm_Runs.seq (l := [(0, .iload_n 0, 1), (1, .iconst 4, 1)]) (S2 := (2, [some (.int v0)], [.int (4 : Int32), .int v0], M)) (by decide +kernel) (hO := mm_own_256) rfl ?_
  refine mm_R_ige (t := 11) rfl rfl rfl (fun hc => ?_) (fun hc => ?_)
  · replace h := mm_ip hc h
    refine mm_Runs.seq (l := [(5, .iload_n 0, 1), (6, .iconst 1, 1), (7, .iadd, 1), (8, .goto 16, 3)]) (S2 := (24, [some (.int v0)], [.int (v0 + (1 : Int32))], M)) (by decide +kernel) (hO := mm_own_256) rfl ?_
    cases h
    exact mm_R_reti rfl rfl hA
  · replace h := mm_iq hc h
    refine mm_Runs.seq (l := [(11, .iconst 1, 1), (12, .iconst 2, 1), (13, .iload_n 0, 1), (14, .iconst 2, 1), (15, .irem, 1), (16, .iadd, 1), (17, .iload_n 0, 1), (18, .iconst 2, 1), (19, .idiv, 1), (20, .iconst 1, 1), (21, .isub, 1), (22, .ishl, 1), (23, .iadd, 1)]) (S2 := (24, [some (.int v0)], [.int ((1 : Int32) + (mm_shl ((2 : Int32) + (mm_rem v0 (2 : Int32))) ((v0 / (2 : Int32)) - (1 : Int32))))], M)) (by decide +kernel) (hO := mm_own_256) rfl ?_
    cases h
    exact mm_R_reti rfl rfl hA
-- 257: PlainPacksModel.distanceLetter(I)I (depth 1)
theorem mm_own_257 : mm_own 257 = 12 := rfl
def mp_257_2 (L : Nat) (xs : Nat → Int32) (d : Nat) (v0 : Int32) (v1 : Int32) (M : mm_M) (o : mm_E) : Prop := mm_Runs L xs d 257 (2, [some (.int v0), some (.int v1)], [], M) o
def mp_257_24 (L : Nat) (xs : Nat → Int32) (d : Nat) (v1 : Int32) (M : mm_M) (o : mm_E) : Prop := ∀ z0 : Option Value, mm_Runs L xs d 257 (24, [z0, some (.int v1)], [], M) o
set_option maxRecDepth 8000 in
set_option maxHeartbeats 4000000 in
theorem ms_257_b2 {L : Nat} {xs : Nat → Int32} {d : Nat} (hd : 1 ≤ d) {v0 : Int32} {v1 : Int32} {M : mm_M} {q : (((Int32) ⊕ (Int32)) ⊕ Nat) × mm_M} {o : mm_E} (h : mf_257_b2 v0 v1 M = some q) (hA : mm_A (mm_K2 (fun s M o => mp_257_2 L xs (d) v0 s M o) (fun r M o => mp_257_24 L xs (d) r M o)) q o) : mp_257_2 L xs d v0 v1 M o := by
  unfold mf_257_b2 at h
  obtain ⟨d, rfl⟩ := mm_d1 (n := 0) hd
  show mm_Runs L xs (d + 1) 257 (2, [some (.int v0), some (.int v1)], [], M) o
  refine mm_Runs.seq (l := [(2, .iload_n 1, 1), (3, .bipush 29, 2)]) (S2 := (5, [some (.int v0), some (.int v1)], [.int (29 : Int32), .int v1], M)) (by decide +kernel) (hO := mm_own_257) rfl ?_
  refine mm_R_ige (t := 24) rfl rfl rfl (fun hc => ?_) (fun hc => ?_)
  · replace h := mm_ip hc h
    refine mm_Runs.seq (l := [(8, .iload_n 1, 1), (9, .iconst 1, 1), (10, .iadd, 1)]) (S2 := (11, [some (.int v0), some (.int v1)], [.int (v1 + (1 : Int32))], M)) (by decide +kernel) (hO := mm_own_257) rfl ?_
    refine mm_R_call (v := mm_wi) h hA (k2 := 256) (as := [.int (v1 + (1 : Int32))]) (r := []) rfl (fun _ => rfl) (fun q hq o ho => ms_256 (by omega) hq ho) (fun r1 M2 h => ?_)
    show mm_Runs L xs (d + 1) 257 (14, [some (.int v0), some (.int v1)], [.int r1], M2) o
    refine mm_Runs.seq (l := [(14, .iload_n 0, 1)]) (S2 := (15, [some (.int v0), some (.int v1)], [.int v0, .int r1], M2)) (by decide +kernel) (hO := mm_own_257) rfl ?_
    refine mm_R_igt (t := 24) rfl rfl rfl (fun hc => ?_) (fun hc => ?_)
    · replace h := mm_ip hc h
      cases h
      exact (show mp_257_24 L xs (d + 1) v1 M2 o from hA) (some (.int v0))
    · replace h := mm_iq hc h
      refine mm_Runs.seq (l := [(18, .iinc 1 1, 3), (21, .goto (-19), 3)]) (S2 := (2, [some (.int v0), some (.int (v1 + (1 : Int32)))], [], M2)) (by decide +kernel) (hO := mm_own_257) rfl ?_
      cases h
      exact (show mp_257_2 L xs (d + 1) v0 (v1 + (1 : Int32)) M2 o from hA)
  · replace h := mm_iq hc h
    cases h
    exact (show mp_257_24 L xs (d + 1) v1 M o from hA) (some (.int v0))
theorem ms_257_L2 {L : Nat} {xs : Nat → Int32} {d : Nat} (hd : 1 ≤ d) {v0 : Int32} {v1 : Int32} {β : Type} {K : β → mm_M → mm_E → Prop} {F : (Int32) → mm_M → mm_O β} {M : mm_M} {q : (β ⊕ Nat) × mm_M} {o : mm_E} (h : mm_B (mf_257_L2 v0 v1 M) F = some q) (hA : mm_A K q o) (hx : ∀ (r : (Int32)) (M2 : mm_M), F r M2 = some q → (fun r M o => mp_257_24 L xs (d) r M o) r M2 o) : mp_257_2 L xs d v0 v1 M o := by
  unfold mf_257_L2 at h
  exact mm_R_loop (step := (fun s M => mf_257_b2 v0 s M)) (s := v1) (M := M) (P := (fun s M o => mp_257_2 L xs (d) v0 s M o)) (X := (fun r M o => mp_257_24 L xs (d) r M o)) h hA (fun s M q hq hA => ms_257_b2 (v0 := v0) (v1 := s) (M := M) (q := q) hd hq hA) hx
set_option maxRecDepth 8000 in
set_option maxHeartbeats 4000000 in
theorem ms_257 {L : Nat} {xs : Nat → Int32} {d : Nat} (hd : 1 ≤ d) {v0 : Int32} {M : mm_M} {q : (Int32 ⊕ Nat) × mm_M} {o : mm_E} (h : mf_257 v0 M = some q) (hA : mm_A (mm_Kr mm_wi) q o) : mm_Runs L xs d 257 (0, mm_ent (mm_ml 257) [.int v0], [], M) o := by
  unfold mf_257 at h
  obtain ⟨d, rfl⟩ := mm_d1 (n := 0) hd
  show mm_Runs L xs (d + 1) 257 (0, [some (.int v0), none], [], M) o
  refine mm_Runs.seq (l := [(0, .iconst 0, 1), (1, .istore_n 1, 1)]) (S2 := (2, [some (.int v0), some (.int (0 : Int32))], [], M)) (by decide +kernel) (hO := mm_own_257) rfl ?_
  have hp : mp_257_2 L xs (d + 1) v0 (0 : Int32) M o := by
    refine ms_257_L2 hd h hA (fun r2 M1 h => ?_)
    intro y3
    show mm_Runs L xs (d + 1) 257 (24, [y3, some (.int r2)], [], M1) o
    refine mm_Runs.seq (l := [(24, .iload_n 1, 1)]) (S2 := (25, [y3, some (.int r2)], [.int r2], M1)) (by decide +kernel) (hO := mm_own_257) rfl ?_
    cases h
    exact mm_R_reti rfl rfl hA
  exact hp
-- 259: PlainPacksModel.moreFar(I)I (depth 0)
theorem mm_own_259 : mm_own 259 = 12 := rfl
set_option maxRecDepth 8000 in
set_option maxHeartbeats 4000000 in
theorem ms_259 {L : Nat} {xs : Nat → Int32} {d : Nat} (hd : 0 ≤ d) {v0 : Int32} {M : mm_M} {q : (Int32 ⊕ Nat) × mm_M} {o : mm_E} (h : mf_259 v0 M = some q) (hA : mm_A (mm_Kr mm_wi) q o) : mm_Runs L xs d 259 (0, mm_ent (mm_ml 259) [.int v0], [], M) o := by
  unfold mf_259 at h
  show mm_Runs L xs (d) 259 (0, [some (.int v0)], [], M) o
  refine mm_Runs.seq (l := [(0, .iload_n 0, 1), (1, .iconst 4, 1)]) (S2 := (2, [some (.int v0)], [.int (4 : Int32), .int v0], M)) (by decide +kernel) (hO := mm_own_259) rfl ?_
  refine mm_R_ige (t := 9) rfl rfl rfl (fun hc => ?_) (fun hc => ?_)
  · replace h := mm_ip hc h
    refine mm_Runs.seq (l := [(5, .iconst 0, 1), (6, .goto 8, 3)]) (S2 := (14, [some (.int v0)], [.int (0 : Int32)], M)) (by decide +kernel) (hO := mm_own_259) rfl ?_
    cases h
    exact mm_R_reti rfl rfl hA
  · replace h := mm_iq hc h
    refine mm_Runs.seq (l := [(9, .iload_n 0, 1), (10, .iconst 2, 1), (11, .idiv, 1), (12, .iconst 1, 1), (13, .isub, 1)]) (S2 := (14, [some (.int v0)], [.int ((v0 / (2 : Int32)) - (1 : Int32))], M)) (by decide +kernel) (hO := mm_own_259) rfl ?_
    cases h
    exact mm_R_reti rfl rfl hA
-- 260: PlainPacksModel.packBlock()V (depth 5)
theorem mm_own_260 : mm_own 260 = 12 := rfl
def mp_260_25 (L : Nat) (xs : Nat → Int32) (d : Nat) (v1 : Int32) (M : mm_M) (o : mm_E) : Prop := ∀ z2 z3 : Option Value, mm_Runs L xs d 260 (25, [some (.ref 84), some (.int v1), z2, z3], [], M) o
def mp_260_159 (L : Nat) (xs : Nat → Int32) (d : Nat) (M : mm_M) (o : mm_E) : Prop := ∀ z1 z2 z3 : Option Value, mm_Runs L xs d 260 (159, [some (.ref 84), z1, z2, z3], [], M) o
def mp_260_106 (L : Nat) (xs : Nat → Int32) (d : Nat) (v1 : Int32) (v2 : Int32) (s1 : Int64) (M : mm_M) (o : mm_E) : Prop := ∀ z3 : Option Value, mm_Runs L xs d 260 (106, [some (.ref 84), some (.int v1), some (.int v2), z3], [.long s1, .ref 84], M) o
set_option maxRecDepth 8000 in
set_option maxHeartbeats 4000000 in
theorem ms_260_j106 {L : Nat} {xs : Nat → Int32} {d : Nat} (hd : 5 ≤ d) {v1 : Int32} {v2 : Int32} {s1 : Int64} {M : mm_M} {q : (((Int32) ⊕ (Unit)) ⊕ Nat) × mm_M} {o : mm_E} (h : mf_260_j106 v1 v2 s1 M = some q) (hA : mm_A (mm_K2 (fun s M o => mp_260_25 L xs (d) s M o) (fun r M o => mp_260_159 L xs (d) M o)) q o) : mp_260_106 L xs d v1 v2 s1 M o := by
  unfold mf_260_j106 at h
  obtain ⟨d, rfl⟩ := mm_d1 (n := 4) hd
  intro z3
  show mm_Runs L xs (d + 1) 260 (106, [some (.ref 84), some (.int v1), some (.int v2), z3], [.long s1, .ref 84], M) o
  refine mm_Runs.seq (l := [(106, .iload_n 2, 1)]) (S2 := (107, [some (.ref 84), some (.int v1), some (.int v2), z3], [.int v2, .long s1, .ref 84], M)) (by decide +kernel) (hO := mm_own_260) rfl ?_
  refine mm_R_call (v := mm_wi) h hA (k2 := 258) (as := [.int v2]) (r := [.long s1, .ref 84]) rfl (fun _ => rfl) (fun q hq o ho => ms_258 (by omega) hq ho) (fun r1 M2 h => ?_)
  show mm_Runs L xs (d + 1) 260 (110, [some (.ref 84), some (.int v1), some (.int v2), z3], [.int r1, .long s1, .ref 84], M2) o
  refine mm_Runs.seq (l := [(110, .iconst 0, 1)]) (S2 := (111, [some (.ref 84), some (.int v1), some (.int v2), z3], [.int (0 : Int32), .int r1, .long s1, .ref 84], M2)) (by decide +kernel) (hO := mm_own_260) rfl ?_
  refine mm_R_call (v := mm_wv) h hA (k2 := 249) (as := [.ref 84, .long s1, .int r1, .int (0 : Int32)]) (r := []) rfl (fun _ => rfl) (fun q hq o ho => ms_249 (by omega) hq ho) (fun _ M3 h => ?_)
  show mm_Runs L xs (d + 1) 260 (114, [some (.ref 84), some (.int v1), some (.int v2), z3], [], M3) o
  refine mm_Runs.seq (l := [(114, .aload_n 0, 1), (115, .getfield 427, 3)]) (S2 := (118, [some (.ref 84), some (.int v1), some (.int v2), z3], [.int (M3.1 84 45)], M3)) (by decide +kernel) (hO := mm_own_260) rfl ?_
  refine mm_R_call (v := mm_wi) h hA (k2 := 257) (as := [.int (M3.1 84 45)]) (r := []) rfl (fun _ => rfl) (fun q hq o ho => ms_257 (by omega) hq ho) (fun r4 M5 h => ?_)
  show mm_Runs L xs (d + 1) 260 (121, [some (.ref 84), some (.int v1), some (.int v2), z3], [.int r4], M5) o
  refine mm_Runs.seq (l := [(121, .istore_n 3, 1), (122, .aload_n 0, 1), (123, .iload_n 3, 1), (124, .i2l, 1), (125, .iconst 5, 1), (126, .iconst 1, 1)]) (S2 := (127, [some (.ref 84), some (.int v1), some (.int v2), some (.int r4)], [.int (1 : Int32), .int (5 : Int32), .long r4.toInt64, .ref 84], M5)) (by decide +kernel) (hO := mm_own_260) rfl ?_
  refine mm_R_call (v := mm_wv) h hA (k2 := 249) (as := [.ref 84, .long r4.toInt64, .int (5 : Int32), .int (1 : Int32)]) (r := []) rfl (fun _ => rfl) (fun q hq o ho => ms_249 (by omega) hq ho) (fun _ M6 h => ?_)
  show mm_Runs L xs (d + 1) 260 (130, [some (.ref 84), some (.int v1), some (.int v2), some (.int r4)], [], M6) o
  refine mm_Runs.seq (l := [(130, .aload_n 0, 1), (131, .aload_n 0, 1), (132, .getfield 427, 3), (135, .iload_n 3, 1)]) (S2 := (136, [some (.ref 84), some (.int v1), some (.int v2), some (.int r4)], [.int r4, .int (M6.1 84 45), .ref 84], M6)) (by decide +kernel) (hO := mm_own_260) rfl ?_
  refine mm_R_call (v := mm_wi) h hA (k2 := 256) (as := [.int r4]) (r := [.int (M6.1 84 45), .ref 84]) rfl (fun _ => rfl) (fun q hq o ho => ms_256 (by omega) hq ho) (fun r7 M8 h => ?_)
  show mm_Runs L xs (d + 1) 260 (139, [some (.ref 84), some (.int v1), some (.int v2), some (.int r4)], [.int r7, .int (M6.1 84 45), .ref 84], M8) o
  refine mm_Runs.seq (l := [(139, .isub, 1), (140, .i2l, 1), (141, .iload_n 3, 1)]) (S2 := (142, [some (.ref 84), some (.int v1), some (.int v2), some (.int r4)], [.int r4, .long ((M6.1 84 45) - r7).toInt64, .ref 84], M8)) (by decide +kernel) (hO := mm_own_260) rfl ?_
  refine mm_R_call (v := mm_wi) h hA (k2 := 259) (as := [.int r4]) (r := [.long ((M6.1 84 45) - r7).toInt64, .ref 84]) rfl (fun _ => rfl) (fun q hq o ho => ms_259 (by omega) hq ho) (fun r9 M10 h => ?_)
  show mm_Runs L xs (d + 1) 260 (145, [some (.ref 84), some (.int v1), some (.int v2), some (.int r4)], [.int r9, .long ((M6.1 84 45) - r7).toInt64, .ref 84], M10) o
  refine mm_Runs.seq (l := [(145, .iconst 0, 1)]) (S2 := (146, [some (.ref 84), some (.int v1), some (.int v2), some (.int r4)], [.int (0 : Int32), .int r9, .long ((M6.1 84 45) - r7).toInt64, .ref 84], M10)) (by decide +kernel) (hO := mm_own_260) rfl ?_
  refine mm_R_call (v := mm_wv) h hA (k2 := 249) (as := [.ref 84, .long ((M6.1 84 45) - r7).toInt64, .int r9, .int (0 : Int32)]) (r := []) rfl (fun _ => rfl) (fun q hq o ho => ms_249 (by omega) hq ho) (fun _ M11 h => ?_)
  show mm_Runs L xs (d + 1) 260 (149, [some (.ref 84), some (.int v1), some (.int v2), some (.int r4)], [], M11) o
  refine mm_Runs.seq (l := [(149, .iload_n 1, 1), (150, .aload_n 0, 1), (151, .getfield 424, 3), (154, .iadd, 1), (155, .istore_n 1, 1), (156, .goto (-131), 3)]) (S2 := (25, [some (.ref 84), some (.int (v1 + (M11.1 84 44))), some (.int v2), some (.int r4)], [], M11)) (by decide +kernel) (hO := mm_own_260) rfl ?_
  cases h
  exact (show mp_260_25 L xs (d + 1) (v1 + (M11.1 84 44)) M11 o from hA) (some (.int v2)) (some (.int r4))
set_option maxRecDepth 8000 in
set_option maxHeartbeats 4000000 in
theorem ms_260_b25 {L : Nat} {xs : Nat → Int32} {d : Nat} (hd : 5 ≤ d) {v1 : Int32} {M : mm_M} {q : (((Int32) ⊕ (Unit)) ⊕ Nat) × mm_M} {o : mm_E} (h : mf_260_b25 v1 M = some q) (hA : mm_A (mm_K2 (fun s M o => mp_260_25 L xs (d) s M o) (fun r M o => mp_260_159 L xs (d) M o)) q o) : mp_260_25 L xs d v1 M o := by
  unfold mf_260_b25 at h
  obtain ⟨d, rfl⟩ := mm_d1 (n := 4) hd
  intro z2 z3
  show mm_Runs L xs (d + 1) 260 (25, [some (.ref 84), some (.int v1), z2, z3], [], M) o
  refine mm_Runs.seq (l := [(25, .iload_n 1, 1), (26, .aload_n 0, 1), (27, .getfield 91, 3)]) (S2 := (30, [some (.ref 84), some (.int v1), z2, z3], [.int (M.1 84 2), .int v1], M)) (by decide +kernel) (hO := mm_own_260) rfl ?_
  refine mm_R_ige (t := 159) rfl rfl rfl (fun hc => ?_) (fun hc => ?_)
  · replace h := mm_ip hc h
    refine mm_Runs.seq (l := [(33, .aload_n 0, 1), (34, .iload_n 1, 1), (35, .sipush 258, 3), (38, .ldc 34, 2), (40, .aload_n 0, 1), (41, .getfield 91, 3)]) (S2 := (44, [some (.ref 84), some (.int v1), z2, z3], [.int (M.1 84 2), .int (32768 : Int32), .int (258 : Int32), .int v1, .ref 84], M)) (by decide +kernel) (hO := mm_own_260) rfl ?_
    refine mm_R_call (v := mm_wv) h hA (k2 := 250) (as := [.ref 84, .int v1, .int (258 : Int32), .int (32768 : Int32), .int (M.1 84 2)]) (r := []) rfl (fun _ => rfl) (fun q hq o ho => ms_250 (by omega) hq ho) (fun _ M1 h => ?_)
    show mm_Runs L xs (d + 1) 260 (47, [some (.ref 84), some (.int v1), z2, z3], [], M1) o
    refine mm_Runs.seq (l := [(47, .aload_n 0, 1), (48, .getfield 424, 3), (51, .iconst 3, 1)]) (S2 := (52, [some (.ref 84), some (.int v1), z2, z3], [.int (3 : Int32), .int (M1.1 84 44)], M1)) (by decide +kernel) (hO := mm_own_260) rfl ?_
    refine mm_R_ige (t := 71) rfl rfl rfl (fun hc => ?_) (fun hc => ?_)
    · replace h := mm_ip hc h
      refine mm_Runs.seq (l := [(55, .aload_n 0, 1), (56, .aload_n 0, 1), (57, .getfield 7, 3), (60, .iload_n 1, 1)]) (S2 := (61, [some (.ref 84), some (.int v1), z2, z3], [.int v1, .ref 85, .ref 84], M1)) (by decide +kernel) (hO := mm_own_260) rfl ?_
      obtain ⟨hb, h⟩ := mm_gd h
      refine mm_R_iald rfl rfl hb ?_
      refine mm_R_call (v := mm_wv) h hA (k2 := 253) (as := [.ref 84, .int (M1.1 85 v1.toNatClampNeg)]) (r := []) rfl (fun _ => rfl) (fun q hq o ho => ms_253 (by omega) hq ho) (fun _ M2 h => ?_)
      show mm_Runs L xs (d + 1) 260 (65, [some (.ref 84), some (.int v1), z2, z3], [], M2) o
      refine mm_Runs.seq (l := [(65, .iinc 1 1, 3), (68, .goto (-43), 3)]) (S2 := (25, [some (.ref 84), some (.int (v1 + (1 : Int32))), z2, z3], [], M2)) (by decide +kernel) (hO := mm_own_260) rfl ?_
      cases h
      exact (show mp_260_25 L xs (d + 1) (v1 + (1 : Int32)) M2 o from hA) z2 z3
    · replace h := mm_iq hc h
      refine mm_Runs.seq (l := [(71, .aload_n 0, 1), (72, .getfield 424, 3)]) (S2 := (75, [some (.ref 84), some (.int v1), z2, z3], [.int (M1.1 84 44)], M1)) (by decide +kernel) (hO := mm_own_260) rfl ?_
      refine mm_R_call (v := mm_wi) h hA (k2 := 254) (as := [.int (M1.1 84 44)]) (r := []) rfl (fun _ => rfl) (fun q hq o ho => ms_254 (by omega) hq ho) (fun r3 M4 h => ?_)
      show mm_Runs L xs (d + 1) 260 (78, [some (.ref 84), some (.int v1), z2, z3], [.int r3], M4) o
      refine mm_Runs.seq (l := [(78, .istore_n 2, 1), (79, .aload_n 0, 1), (80, .iload_n 2, 1)]) (S2 := (81, [some (.ref 84), some (.int v1), some (.int r3), z3], [.int r3, .ref 84], M4)) (by decide +kernel) (hO := mm_own_260) rfl ?_
      refine mm_R_call (v := mm_wv) h hA (k2 := 253) (as := [.ref 84, .int r3]) (r := []) rfl (fun _ => rfl) (fun q hq o ho => ms_253 (by omega) hq ho) (fun _ M5 h => ?_)
      show mm_Runs L xs (d + 1) 260 (84, [some (.ref 84), some (.int v1), some (.int r3), z3], [], M5) o
      refine mm_Runs.seq (l := [(84, .aload_n 0, 1), (85, .iload_n 2, 1), (86, .sipush 285, 3)]) (S2 := (89, [some (.ref 84), some (.int v1), some (.int r3), z3], [.int (285 : Int32), .int r3, .ref 84], M5)) (by decide +kernel) (hO := mm_own_260) rfl ?_
      refine mm_R_ine (t := 96) rfl rfl rfl (fun hc => ?_) (fun hc => ?_)
      · replace h := mm_ip hc h
        refine mm_Runs.seq (l := [(92, .lconst 0, 1), (93, .goto 13, 3)]) (S2 := (106, [some (.ref 84), some (.int v1), some (.int r3), z3], [.long (0 : Int64), .ref 84], M5)) (by decide +kernel) (hO := mm_own_260) rfl ?_
        exact (ms_260_j106 hd h hA : mp_260_106 L xs (d + 1) v1 r3 (0 : Int64) M5 o) z3
      · replace h := mm_iq hc h
        refine mm_Runs.seq (l := [(96, .aload_n 0, 1), (97, .getfield 424, 3), (100, .iload_n 2, 1)]) (S2 := (101, [some (.ref 84), some (.int v1), some (.int r3), z3], [.int r3, .int (M5.1 84 44), .ref 84], M5)) (by decide +kernel) (hO := mm_own_260) rfl ?_
        refine mm_R_call (v := mm_wi) h hA (k2 := 255) (as := [.int r3]) (r := [.int (M5.1 84 44), .ref 84]) rfl (fun _ => rfl) (fun q hq o ho => ms_255 (by omega) hq ho) (fun r6 M7 h => ?_)
        show mm_Runs L xs (d + 1) 260 (104, [some (.ref 84), some (.int v1), some (.int r3), z3], [.int r6, .int (M5.1 84 44), .ref 84], M7) o
        refine mm_Runs.seq (l := [(104, .isub, 1), (105, .i2l, 1)]) (S2 := (106, [some (.ref 84), some (.int v1), some (.int r3), z3], [.long ((M5.1 84 44) - r6).toInt64, .ref 84], M7)) (by decide +kernel) (hO := mm_own_260) rfl ?_
        exact (ms_260_j106 hd h hA : mp_260_106 L xs (d + 1) v1 r3 ((M5.1 84 44) - r6).toInt64 M7 o) z3
  · replace h := mm_iq hc h
    cases h
    exact (show mp_260_159 L xs (d + 1) M o from hA) (some (.int v1)) z2 z3
theorem ms_260_L25 {L : Nat} {xs : Nat → Int32} {d : Nat} (hd : 5 ≤ d) {v1 : Int32} {β : Type} {K : β → mm_M → mm_E → Prop} {F : (Unit) → mm_M → mm_O β} {M : mm_M} {q : (β ⊕ Nat) × mm_M} {o : mm_E} (h : mm_B (mf_260_L25 v1 M) F = some q) (hA : mm_A K q o) (hx : ∀ (r : (Unit)) (M2 : mm_M), F r M2 = some q → (fun r M o => mp_260_159 L xs (d) M o) r M2 o) : mp_260_25 L xs d v1 M o := by
  unfold mf_260_L25 at h
  exact mm_R_loop (step := (fun s M => mf_260_b25 s M)) (s := v1) (M := M) (P := (fun s M o => mp_260_25 L xs (d) s M o)) (X := (fun r M o => mp_260_159 L xs (d) M o)) h hA (fun s M q hq hA => ms_260_b25 (v1 := s) (M := M) (q := q) hd hq hA) hx
set_option maxRecDepth 8000 in
set_option maxHeartbeats 4000000 in
theorem ms_260_j159 {L : Nat} {xs : Nat → Int32} {d : Nat} (hd : 5 ≤ d) {M : mm_M} {q : (Unit ⊕ Nat) × mm_M} {o : mm_E} (h : mf_260_j159 M = some q) (hA : mm_A (mm_Kr mm_wv) q o) : mp_260_159 L xs d M o := by
  unfold mf_260_j159 at h
  obtain ⟨d, rfl⟩ := mm_d1 (n := 4) hd
  intro z1 z2 z3
  show mm_Runs L xs (d + 1) 260 (159, [some (.ref 84), z1, z2, z3], [], M) o
  refine mm_Runs.seq (l := [(159, .aload_n 0, 1), (160, .sipush 256, 3)]) (S2 := (163, [some (.ref 84), z1, z2, z3], [.int (256 : Int32), .ref 84], M)) (by decide +kernel) (hO := mm_own_260) rfl ?_
  refine mm_R_call (v := mm_wv) h hA (k2 := 253) (as := [.ref 84, .int (256 : Int32)]) (r := []) rfl (fun _ => rfl) (fun q hq o ho => ms_253 (by omega) hq ho) (fun _ M1 h => ?_)
  show mm_Runs L xs (d + 1) 260 (166, [some (.ref 84), z1, z2, z3], [], M1) o
  refine mm_Runs.seq (l := [(166, .aload_n 0, 1)]) (S2 := (167, [some (.ref 84), z1, z2, z3], [.ref 84], M1)) (by decide +kernel) (hO := mm_own_260) rfl ?_
  refine mm_R_call (v := mm_wv) h hA (k2 := 248) (as := [.ref 84]) (r := []) rfl (fun _ => rfl) (fun q hq o ho => ms_248 (by omega) hq ho) (fun _ M2 h => ?_)
  show mm_Runs L xs (d + 1) 260 (170, [some (.ref 84), z1, z2, z3], [], M2) o
  cases h
  exact mm_R_retv rfl rfl hA
set_option maxRecDepth 8000 in
set_option maxHeartbeats 4000000 in
theorem ms_260 {L : Nat} {xs : Nat → Int32} {d : Nat} (hd : 5 ≤ d) {M : mm_M} {q : (Unit ⊕ Nat) × mm_M} {o : mm_E} (h : mf_260 M = some q) (hA : mm_A (mm_Kr mm_wv) q o) : mm_Runs L xs d 260 (0, mm_ent (mm_ml 260) [.ref 84], [], M) o := by
  unfold mf_260 at h
  obtain ⟨d, rfl⟩ := mm_d1 (n := 4) hd
  show mm_Runs L xs (d + 1) 260 (0, [some (.ref 84), none, none, none], [], M) o
  refine mm_Runs.seq (l := [(0, .aload_n 0, 1), (1, .iconst 0, 1), (2, .putfield 178, 3), (5, .aload_n 0, 1)]) (S2 := (6, [some (.ref 84), none, none, none], [.ref 84], (mm_pi M 84 13 (0 : Int32)))) (by decide +kernel) (hO := mm_own_260) rfl ?_
  refine mm_R_call (v := mm_wv) h hA (k2 := 205) (as := [.ref 84]) (r := []) rfl (fun _ => rfl) (fun q hq o ho => ms_205 (by omega) hq ho) (fun _ M1 h => ?_)
  show mm_Runs L xs (d + 1) 260 (9, [some (.ref 84), none, none, none], [], M1) o
  refine mm_Runs.seq (l := [(9, .aload_n 0, 1), (10, .lconst 1, 1), (11, .iconst 1, 1), (12, .iconst 0, 1)]) (S2 := (13, [some (.ref 84), none, none, none], [.int (0 : Int32), .int (1 : Int32), .long (1 : Int64), .ref 84], M1)) (by decide +kernel) (hO := mm_own_260) rfl ?_
  refine mm_R_call (v := mm_wv) h hA (k2 := 249) (as := [.ref 84, .long (1 : Int64), .int (1 : Int32), .int (0 : Int32)]) (r := []) rfl (fun _ => rfl) (fun q hq o ho => ms_249 (by omega) hq ho) (fun _ M2 h => ?_)
  show mm_Runs L xs (d + 1) 260 (16, [some (.ref 84), none, none, none], [], M2) o
  refine mm_Runs.seq (l := [(16, .aload_n 0, 1), (17, .lconst 1, 1), (18, .iconst 2, 1), (19, .iconst 0, 1)]) (S2 := (20, [some (.ref 84), none, none, none], [.int (0 : Int32), .int (2 : Int32), .long (1 : Int64), .ref 84], M2)) (by decide +kernel) (hO := mm_own_260) rfl ?_
  refine mm_R_call (v := mm_wv) h hA (k2 := 249) (as := [.ref 84, .long (1 : Int64), .int (2 : Int32), .int (0 : Int32)]) (r := []) rfl (fun _ => rfl) (fun q hq o ho => ms_249 (by omega) hq ho) (fun _ M3 h => ?_)
  show mm_Runs L xs (d + 1) 260 (23, [some (.ref 84), none, none, none], [], M3) o
  refine mm_Runs.seq (l := [(23, .iconst 0, 1), (24, .istore_n 1, 1)]) (S2 := (25, [some (.ref 84), some (.int (0 : Int32)), none, none], [], M3)) (by decide +kernel) (hO := mm_own_260) rfl ?_
  have hp : mp_260_25 L xs (d + 1) (0 : Int32) M3 o := by
    refine ms_260_L25 hd h hA (fun r5 M4 h => ?_)
    intro y6 y7 y8
    show mm_Runs L xs (d + 1) 260 (159, [some (.ref 84), y6, y7, y8], [], M4) o
    exact (ms_260_j159 hd h hA : mp_260_159 L xs (d + 1) M4 o) y6 y7 y8
  exact hp none none
-- 246: PlainPacksModel.writeLow(JI)V (depth 1)
theorem mm_own_246 : mm_own 246 = 12 := rfl
def mp_246_3 (L : Nat) (xs : Nat → Int32) (d : Nat) (v1 : Int64) (v3 : Int32) (v4 : Int32) (M : mm_M) (o : mm_E) : Prop := ∀ z2 : Option Value, mm_Runs L xs d 246 (3, [some (.ref 84), some (.long v1), z2, some (.int v3), some (.int v4)], [], M) o
def mp_246_31 (L : Nat) (xs : Nat → Int32) (d : Nat) (M : mm_M) (o : mm_E) : Prop := ∀ z0 z1 z2 z3 z4 : Option Value, mm_Runs L xs d 246 (31, [z0, z1, z2, z3, z4], [], M) o
set_option maxRecDepth 8000 in
set_option maxHeartbeats 4000000 in
theorem ms_246_b3 {L : Nat} {xs : Nat → Int32} {d : Nat} (hd : 1 ≤ d) {v1 : Int64} {v3 : Int32} {v4 : Int32} {M : mm_M} {q : (((Int32) ⊕ (Unit)) ⊕ Nat) × mm_M} {o : mm_E} (h : mf_246_b3 v1 v3 v4 M = some q) (hA : mm_A (mm_K2 (fun s M o => mp_246_3 L xs (d) v1 v3 s M o) (fun r M o => mp_246_31 L xs (d) M o)) q o) : mp_246_3 L xs d v1 v3 v4 M o := by
  unfold mf_246_b3 at h
  obtain ⟨d, rfl⟩ := mm_d1 (n := 0) hd
  intro z2
  show mm_Runs L xs (d + 1) 246 (3, [some (.ref 84), some (.long v1), z2, some (.int v3), some (.int v4)], [], M) o
  refine mm_Runs.seq (l := [(3, .iload 4, 2), (5, .iload_n 3, 1)]) (S2 := (6, [some (.ref 84), some (.long v1), z2, some (.int v3), some (.int v4)], [.int v3, .int v4], M)) (by decide +kernel) (hO := mm_own_246) rfl ?_
  refine mm_R_ige (t := 31) rfl rfl rfl (fun hc => ?_) (fun hc => ?_)
  · replace h := mm_ip hc h
    refine mm_Runs.seq (l := [(9, .aload_n 0, 1), (10, .lload_n 1, 1), (11, .bipush 8, 2), (13, .iload 4, 2), (15, .imul, 1), (16, .lushr, 1), (17, .l2i, 1), (18, .sipush 255, 3), (21, .iand, 1)]) (S2 := (22, [some (.ref 84), some (.long v1), z2, some (.int v3), some (.int v4)], [.int ((mm_lush v1 ((8 : Int32) * v4)).toInt32 &&& (255 : Int32)), .ref 84], M)) (by decide +kernel) (hO := mm_own_246) rfl ?_
    refine mm_R_call (v := mm_wv) h hA (k2 := 245) (as := [.ref 84, .int ((mm_lush v1 ((8 : Int32) * v4)).toInt32 &&& (255 : Int32))]) (r := []) rfl (fun _ => rfl) (fun q hq o ho => ms_245 (by omega) hq ho) (fun _ M1 h => ?_)
    show mm_Runs L xs (d + 1) 246 (25, [some (.ref 84), some (.long v1), z2, some (.int v3), some (.int v4)], [], M1) o
    refine mm_Runs.seq (l := [(25, .iinc 4 1, 3), (28, .goto (-25), 3)]) (S2 := (3, [some (.ref 84), some (.long v1), z2, some (.int v3), some (.int (v4 + (1 : Int32)))], [], M1)) (by decide +kernel) (hO := mm_own_246) rfl ?_
    cases h
    exact (show mp_246_3 L xs (d + 1) v1 v3 (v4 + (1 : Int32)) M1 o from hA) z2
  · replace h := mm_iq hc h
    cases h
    exact (show mp_246_31 L xs (d + 1) M o from hA) (some (.ref 84)) (some (.long v1)) z2 (some (.int v3)) (some (.int v4))
theorem ms_246_L3 {L : Nat} {xs : Nat → Int32} {d : Nat} (hd : 1 ≤ d) {v1 : Int64} {v3 : Int32} {v4 : Int32} {β : Type} {K : β → mm_M → mm_E → Prop} {F : (Unit) → mm_M → mm_O β} {M : mm_M} {q : (β ⊕ Nat) × mm_M} {o : mm_E} (h : mm_B (mf_246_L3 v1 v3 v4 M) F = some q) (hA : mm_A K q o) (hx : ∀ (r : (Unit)) (M2 : mm_M), F r M2 = some q → (fun r M o => mp_246_31 L xs (d) M o) r M2 o) : mp_246_3 L xs d v1 v3 v4 M o := by
  unfold mf_246_L3 at h
  exact mm_R_loop (step := (fun s M => mf_246_b3 v1 v3 s M)) (s := v4) (M := M) (P := (fun s M o => mp_246_3 L xs (d) v1 v3 s M o)) (X := (fun r M o => mp_246_31 L xs (d) M o)) h hA (fun s M q hq hA => ms_246_b3 (v1 := v1) (v3 := v3) (v4 := s) (M := M) (q := q) hd hq hA) hx
set_option maxRecDepth 8000 in
set_option maxHeartbeats 4000000 in
theorem ms_246 {L : Nat} {xs : Nat → Int32} {d : Nat} (hd : 1 ≤ d) {v1 : Int64} {v3 : Int32} {M : mm_M} {q : (Unit ⊕ Nat) × mm_M} {o : mm_E} (h : mf_246 v1 v3 M = some q) (hA : mm_A (mm_Kr mm_wv) q o) : mm_Runs L xs d 246 (0, mm_ent (mm_ml 246) [.ref 84, .long v1, .int v3], [], M) o := by
  unfold mf_246 at h
  obtain ⟨d, rfl⟩ := mm_d1 (n := 0) hd
  show mm_Runs L xs (d + 1) 246 (0, [some (.ref 84), some (.long v1), none, some (.int v3), none], [], M) o
  refine mm_Runs.seq (l := [(0, .iconst 0, 1), (1, .istore 4, 2)]) (S2 := (3, [some (.ref 84), some (.long v1), none, some (.int v3), some (.int (0 : Int32))], [], M)) (by decide +kernel) (hO := mm_own_246) rfl ?_
  have hp : mp_246_3 L xs (d + 1) v1 v3 (0 : Int32) M o := by
    refine ms_246_L3 hd h hA (fun r2 M1 h => ?_)
    intro y3 y4 y5 y6 y7
    show mm_Runs L xs (d + 1) 246 (31, [y3, y4, y5, y6, y7], [], M1) o
    cases h
    exact mm_R_retv rfl rfl hA
  exact hp none
-- 285: PlainPacksModel.packBlocks(I)V (depth 6)
theorem mm_own_285 : mm_own 285 = 12 := rfl
def mp_285_16 (L : Nat) (xs : Nat → Int32) (d : Nat) (v1 : Int32) (M : mm_M) (o : mm_E) : Prop := ∀ z2 z3 : Option Value, mm_Runs L xs d 285 (16, [some (.ref 84), some (.int v1), z2, z3], [], M) o
def mp_285_42 (L : Nat) (xs : Nat → Int32) (d : Nat) (v1 : Int32) (v2 : Int32) (M : mm_M) (o : mm_E) : Prop := ∀ z3 : Option Value, mm_Runs L xs d 285 (42, [some (.ref 84), some (.int v1), some (.int v2), z3], [], M) o
def mp_285_59 (L : Nat) (xs : Nat → Int32) (d : Nat) (v1 : Int32) (M : mm_M) (o : mm_E) : Prop := ∀ z2 z3 : Option Value, mm_Runs L xs d 285 (59, [some (.ref 84), some (.int v1), z2, z3], [], M) o
set_option maxRecDepth 8000 in
set_option maxHeartbeats 4000000 in
theorem ms_285_b42 {L : Nat} {xs : Nat → Int32} {d : Nat} (hd : 6 ≤ d) {v1 : Int32} {v2 : Int32} {M : mm_M} {q : (((Int32) ⊕ (Unit)) ⊕ Nat) × mm_M} {o : mm_E} (h : mf_285_b42 v1 v2 M = some q) (hA : mm_A (mm_K2 (fun s M o => mp_285_42 L xs (d) v1 s M o) (fun r M o => mp_285_59 L xs (d) v1 M o)) q o) : mp_285_42 L xs d v1 v2 M o := by
  unfold mf_285_b42 at h
  obtain ⟨d, rfl⟩ := mm_d1 (n := 5) hd
  intro z3
  show mm_Runs L xs (d + 1) 285 (42, [some (.ref 84), some (.int v1), some (.int v2), z3], [], M) o
  refine mm_Runs.seq (l := [(42, .iload_n 2, 1), (43, .bipush 6, 2)]) (S2 := (45, [some (.ref 84), some (.int v1), some (.int v2), z3], [.int (6 : Int32), .int v2], M)) (by decide +kernel) (hO := mm_own_285) rfl ?_
  refine mm_R_ige (t := 59) rfl rfl rfl (fun hc => ?_) (fun hc => ?_)
  · replace h := mm_ip hc h
    refine mm_Runs.seq (l := [(48, .aload_n 0, 1), (49, .iconst 0, 1)]) (S2 := (50, [some (.ref 84), some (.int v1), some (.int v2), z3], [.int (0 : Int32), .ref 84], M)) (by decide +kernel) (hO := mm_own_285) rfl ?_
    refine mm_R_call (v := mm_wv) h hA (k2 := 245) (as := [.ref 84, .int (0 : Int32)]) (r := []) rfl (fun _ => rfl) (fun q hq o ho => ms_245 (by omega) hq ho) (fun _ M1 h => ?_)
    show mm_Runs L xs (d + 1) 285 (53, [some (.ref 84), some (.int v1), some (.int v2), z3], [], M1) o
    refine mm_Runs.seq (l := [(53, .iinc 2 1, 3), (56, .goto (-14), 3)]) (S2 := (42, [some (.ref 84), some (.int v1), some (.int (v2 + (1 : Int32))), z3], [], M1)) (by decide +kernel) (hO := mm_own_285) rfl ?_
    cases h
    exact (show mp_285_42 L xs (d + 1) v1 (v2 + (1 : Int32)) M1 o from hA) z3
  · replace h := mm_iq hc h
    cases h
    exact (show mp_285_59 L xs (d + 1) v1 M o from hA) (some (.int v2)) z3
theorem ms_285_L42 {L : Nat} {xs : Nat → Int32} {d : Nat} (hd : 6 ≤ d) {v1 : Int32} {v2 : Int32} {β : Type} {K : β → mm_M → mm_E → Prop} {F : (Unit) → mm_M → mm_O β} {M : mm_M} {q : (β ⊕ Nat) × mm_M} {o : mm_E} (h : mm_B (mf_285_L42 v1 v2 M) F = some q) (hA : mm_A K q o) (hx : ∀ (r : (Unit)) (M2 : mm_M), F r M2 = some q → (fun r M o => mp_285_59 L xs (d) v1 M o) r M2 o) : mp_285_42 L xs d v1 v2 M o := by
  unfold mf_285_L42 at h
  exact mm_R_loop (step := (fun s M => mf_285_b42 v1 s M)) (s := v2) (M := M) (P := (fun s M o => mp_285_42 L xs (d) v1 s M o)) (X := (fun r M o => mp_285_59 L xs (d) v1 M o)) h hA (fun s M q hq hA => ms_285_b42 (v1 := v1) (v2 := s) (M := M) (q := q) hd hq hA) hx
def mp_285_66 (L : Nat) (xs : Nat → Int32) (d : Nat) (v1 : Int32) (M : mm_M) (o : mm_E) : Prop := ∀ z2 z3 : Option Value, mm_Runs L xs d 285 (66, [some (.ref 84), some (.int v1), z2, z3], [], M) o
def mp_285_91 (L : Nat) (xs : Nat → Int32) (d : Nat) (v1 : Int32) (v2 : Int32) (v3 : Int32) (M : mm_M) (o : mm_E) : Prop := mm_Runs L xs d 285 (91, [some (.ref 84), some (.int v1), some (.int v2), some (.int v3)], [], M) o
def mp_285_112 (L : Nat) (xs : Nat → Int32) (d : Nat) (v1 : Int32) (M : mm_M) (o : mm_E) : Prop := ∀ z2 z3 : Option Value, mm_Runs L xs d 285 (112, [some (.ref 84), some (.int v1), z2, z3], [], M) o
set_option maxRecDepth 8000 in
set_option maxHeartbeats 4000000 in
theorem ms_285_b91 {L : Nat} {xs : Nat → Int32} {d : Nat} (hd : 6 ≤ d) {v1 : Int32} {v2 : Int32} {v3 : Int32} {M : mm_M} {q : (((Int32) ⊕ (Unit)) ⊕ Nat) × mm_M} {o : mm_E} (h : mf_285_b91 v1 v2 v3 M = some q) (hA : mm_A (mm_K2 (fun s M o => mp_285_91 L xs (d) v1 v2 s M o) (fun r M o => mp_285_112 L xs (d) v1 M o)) q o) : mp_285_91 L xs d v1 v2 v3 M o := by
  unfold mf_285_b91 at h
  obtain ⟨d, rfl⟩ := mm_d1 (n := 5) hd
  show mm_Runs L xs (d + 1) 285 (91, [some (.ref 84), some (.int v1), some (.int v2), some (.int v3)], [], M) o
  refine mm_Runs.seq (l := [(91, .iload_n 3, 1)]) (S2 := (92, [some (.ref 84), some (.int v1), some (.int v2), some (.int v3)], [.int v3], M)) (by decide +kernel) (hO := mm_own_285) rfl ?_
  refine mm_R_zlt (t := 112) rfl rfl rfl (fun hc => ?_) (fun hc => ?_)
  · replace h := mm_ip hc h
    cases h
    exact (show mp_285_112 L xs (d + 1) v1 M o from hA) (some (.int v2)) (some (.int v3))
  · replace h := mm_iq hc h
    refine mm_Runs.seq (l := [(95, .aload_n 0, 1), (96, .iload_n 2, 1), (97, .iload_n 3, 1), (98, .iushr, 1), (99, .sipush 255, 3), (102, .iand, 1)]) (S2 := (103, [some (.ref 84), some (.int v1), some (.int v2), some (.int v3)], [.int ((mm_ush v2 v3) &&& (255 : Int32)), .ref 84], M)) (by decide +kernel) (hO := mm_own_285) rfl ?_
    refine mm_R_call (v := mm_wv) h hA (k2 := 245) (as := [.ref 84, .int ((mm_ush v2 v3) &&& (255 : Int32))]) (r := []) rfl (fun _ => rfl) (fun q hq o ho => ms_245 (by omega) hq ho) (fun _ M1 h => ?_)
    show mm_Runs L xs (d + 1) 285 (106, [some (.ref 84), some (.int v1), some (.int v2), some (.int v3)], [], M1) o
    refine mm_Runs.seq (l := [(106, .iinc 3 (-8), 3), (109, .goto (-18), 3)]) (S2 := (91, [some (.ref 84), some (.int v1), some (.int v2), some (.int (v3 + (-8 : Int32)))], [], M1)) (by decide +kernel) (hO := mm_own_285) rfl ?_
    cases h
    exact (show mp_285_91 L xs (d + 1) v1 v2 (v3 + (-8 : Int32)) M1 o from hA)
theorem ms_285_L91 {L : Nat} {xs : Nat → Int32} {d : Nat} (hd : 6 ≤ d) {v1 : Int32} {v2 : Int32} {v3 : Int32} {β : Type} {K : β → mm_M → mm_E → Prop} {F : (Unit) → mm_M → mm_O β} {M : mm_M} {q : (β ⊕ Nat) × mm_M} {o : mm_E} (h : mm_B (mf_285_L91 v1 v2 v3 M) F = some q) (hA : mm_A K q o) (hx : ∀ (r : (Unit)) (M2 : mm_M), F r M2 = some q → (fun r M o => mp_285_112 L xs (d) v1 M o) r M2 o) : mp_285_91 L xs d v1 v2 v3 M o := by
  unfold mf_285_L91 at h
  exact mm_R_loop (step := (fun s M => mf_285_b91 v1 v2 s M)) (s := v3) (M := M) (P := (fun s M o => mp_285_91 L xs (d) v1 v2 s M o)) (X := (fun r M o => mp_285_112 L xs (d) v1 M o)) h hA (fun s M q hq hA => ms_285_b91 (v1 := v1) (v2 := v2) (v3 := s) (M := M) (q := q) hd hq hA) hx
set_option maxRecDepth 8000 in
set_option maxHeartbeats 4000000 in
theorem ms_285_j112 {L : Nat} {xs : Nat → Int32} {d : Nat} (hd : 6 ≤ d) {v1 : Int32} {M : mm_M} {q : (Unit ⊕ Nat) × mm_M} {o : mm_E} (h : mf_285_j112 v1 M = some q) (hA : mm_A (mm_Kr mm_wv) q o) : mp_285_112 L xs d v1 M o := by
  unfold mf_285_j112 at h
  obtain ⟨d, rfl⟩ := mm_d1 (n := 5) hd
  intro z2 z3
  show mm_Runs L xs (d + 1) 285 (112, [some (.ref 84), some (.int v1), z2, z3], [], M) o
  refine mm_Runs.seq (l := [(112, .iload_n 1, 1), (113, .iconst 3, 1)]) (S2 := (114, [some (.ref 84), some (.int v1), z2, z3], [.int (3 : Int32), .int v1], M)) (by decide +kernel) (hO := mm_own_285) rfl ?_
  refine mm_R_ine (t := 145) rfl rfl rfl (fun hc => ?_) (fun hc => ?_)
  · replace h := mm_ip hc h
    refine mm_Runs.seq (l := [(117, .aload_n 0, 1), (118, .aload_n 0, 1), (119, .getfield 7, 3), (122, .iconst 0, 1), (123, .aload_n 0, 1), (124, .getfield 91, 3)]) (S2 := (127, [some (.ref 84), some (.int v1), z2, z3], [.int (M.1 84 2), .int (0 : Int32), .ref 85, .ref 84], M)) (by decide +kernel) (hO := mm_own_285) rfl ?_
    refine mm_R_call (v := mm_wi) h hA (k2 := 182) (as := [.ref 85, .int (0 : Int32), .int (M.1 84 2)]) (r := [.ref 84]) rfl (fun _ => rfl) (fun q hq o ho => ms_182 rfl (by omega) hq ho) (fun r1 M2 h => ?_)
    show mm_Runs L xs (d + 1) 285 (130, [some (.ref 84), some (.int v1), z2, z3], [.int r1, .ref 84], M2) o
    refine mm_Runs.seq (l := [(130, .i2l, 1), (131, .iconst 4, 1)]) (S2 := (132, [some (.ref 84), some (.int v1), z2, z3], [.int (4 : Int32), .long r1.toInt64, .ref 84], M2)) (by decide +kernel) (hO := mm_own_285) rfl ?_
    refine mm_R_call (v := mm_wv) h hA (k2 := 246) (as := [.ref 84, .long r1.toInt64, .int (4 : Int32)]) (r := []) rfl (fun _ => rfl) (fun q hq o ho => ms_246 (by omega) hq ho) (fun _ M3 h => ?_)
    show mm_Runs L xs (d + 1) 285 (135, [some (.ref 84), some (.int v1), z2, z3], [], M3) o
    refine mm_Runs.seq (l := [(135, .aload_n 0, 1), (136, .aload_n 0, 1), (137, .getfield 91, 3), (140, .i2l, 1), (141, .iconst 4, 1)]) (S2 := (142, [some (.ref 84), some (.int v1), z2, z3], [.int (4 : Int32), .long (M3.1 84 2).toInt64, .ref 84], M3)) (by decide +kernel) (hO := mm_own_285) rfl ?_
    refine mm_R_call (v := mm_wv) h hA (k2 := 246) (as := [.ref 84, .long (M3.1 84 2).toInt64, .int (4 : Int32)]) (r := []) rfl (fun _ => rfl) (fun q hq o ho => ms_246 (by omega) hq ho) (fun _ M4 h => ?_)
    show mm_Runs L xs (d + 1) 285 (145, [some (.ref 84), some (.int v1), z2, z3], [], M4) o
    cases h
    exact mm_R_retv rfl rfl hA
  · replace h := mm_iq hc h
    cases h
    exact mm_R_retv rfl rfl hA
set_option maxRecDepth 8000 in
set_option maxHeartbeats 4000000 in
theorem ms_285_j66 {L : Nat} {xs : Nat → Int32} {d : Nat} (hd : 6 ≤ d) {v1 : Int32} {M : mm_M} {q : (Unit ⊕ Nat) × mm_M} {o : mm_E} (h : mf_285_j66 v1 M = some q) (hA : mm_A (mm_Kr mm_wv) q o) : mp_285_66 L xs d v1 M o := by
  unfold mf_285_j66 at h
  obtain ⟨d, rfl⟩ := mm_d1 (n := 5) hd
  intro z2 z3
  show mm_Runs L xs (d + 1) 285 (66, [some (.ref 84), some (.int v1), z2, z3], [], M) o
  refine mm_Runs.seq (l := [(66, .aload_n 0, 1)]) (S2 := (67, [some (.ref 84), some (.int v1), z2, z3], [.ref 84], M)) (by decide +kernel) (hO := mm_own_285) rfl ?_
  refine mm_R_call (v := mm_wv) h hA (k2 := 260) (as := [.ref 84]) (r := []) rfl (fun _ => rfl) (fun q hq o ho => ms_260 (by omega) hq ho) (fun _ M1 h => ?_)
  show mm_Runs L xs (d + 1) 285 (70, [some (.ref 84), some (.int v1), z2, z3], [], M1) o
  refine mm_Runs.seq (l := [(70, .iload_n 1, 1), (71, .iconst 2, 1)]) (S2 := (72, [some (.ref 84), some (.int v1), z2, z3], [.int (2 : Int32), .int v1], M1)) (by decide +kernel) (hO := mm_own_285) rfl ?_
  refine mm_R_ine (t := 112) rfl rfl rfl (fun hc => ?_) (fun hc => ?_)
  · replace h := mm_ip hc h
    refine mm_Runs.seq (l := [(75, .aload_n 0, 1), (76, .getfield 7, 3), (79, .iconst 0, 1), (80, .aload_n 0, 1), (81, .getfield 91, 3)]) (S2 := (84, [some (.ref 84), some (.int v1), z2, z3], [.int (M1.1 84 2), .int (0 : Int32), .ref 85], M1)) (by decide +kernel) (hO := mm_own_285) rfl ?_
    refine mm_R_call (v := mm_wi) h hA (k2 := 184) (as := [.ref 85, .int (0 : Int32), .int (M1.1 84 2)]) (r := []) rfl (fun _ => rfl) (fun q hq o ho => ms_184 rfl (by omega) hq ho) (fun r2 M3 h => ?_)
    show mm_Runs L xs (d + 1) 285 (87, [some (.ref 84), some (.int v1), z2, z3], [.int r2], M3) o
    refine mm_Runs.seq (l := [(87, .istore_n 2, 1), (88, .bipush 24, 2), (90, .istore_n 3, 1)]) (S2 := (91, [some (.ref 84), some (.int v1), some (.int r2), some (.int (24 : Int32))], [], M3)) (by decide +kernel) (hO := mm_own_285) rfl ?_
    have hp : mp_285_91 L xs (d + 1) v1 r2 (24 : Int32) M3 o := by
      refine ms_285_L91 hd h hA (fun r5 M4 h => ?_)
      intro y6 y7
      show mm_Runs L xs (d + 1) 285 (112, [some (.ref 84), some (.int v1), y6, y7], [], M4) o
      exact (ms_285_j112 hd h hA : mp_285_112 L xs (d + 1) v1 M4 o) y6 y7
    exact hp
  · replace h := mm_iq hc h
    exact (ms_285_j112 hd h hA : mp_285_112 L xs (d + 1) v1 M1 o) z2 z3
set_option maxRecDepth 8000 in
set_option maxHeartbeats 4000000 in
theorem ms_285_j59 {L : Nat} {xs : Nat → Int32} {d : Nat} (hd : 6 ≤ d) {v1 : Int32} {M : mm_M} {q : (Unit ⊕ Nat) × mm_M} {o : mm_E} (h : mf_285_j59 v1 M = some q) (hA : mm_A (mm_Kr mm_wv) q o) : mp_285_59 L xs d v1 M o := by
  unfold mf_285_j59 at h
  obtain ⟨d, rfl⟩ := mm_d1 (n := 5) hd
  intro z2 z3
  show mm_Runs L xs (d + 1) 285 (59, [some (.ref 84), some (.int v1), z2, z3], [], M) o
  refine mm_Runs.seq (l := [(59, .aload_n 0, 1), (60, .sipush 255, 3)]) (S2 := (63, [some (.ref 84), some (.int v1), z2, z3], [.int (255 : Int32), .ref 84], M)) (by decide +kernel) (hO := mm_own_285) rfl ?_
  refine mm_R_call (v := mm_wv) h hA (k2 := 245) (as := [.ref 84, .int (255 : Int32)]) (r := []) rfl (fun _ => rfl) (fun q hq o ho => ms_245 (by omega) hq ho) (fun _ M1 h => ?_)
  show mm_Runs L xs (d + 1) 285 (66, [some (.ref 84), some (.int v1), z2, z3], [], M1) o
  exact (ms_285_j66 hd h hA : mp_285_66 L xs (d + 1) v1 M1 o) z2 z3
set_option maxRecDepth 8000 in
set_option maxHeartbeats 4000000 in
theorem ms_285_j16 {L : Nat} {xs : Nat → Int32} {d : Nat} (hd : 6 ≤ d) {v1 : Int32} {M : mm_M} {q : (Unit ⊕ Nat) × mm_M} {o : mm_E} (h : mf_285_j16 v1 M = some q) (hA : mm_A (mm_Kr mm_wv) q o) : mp_285_16 L xs d v1 M o := by
  unfold mf_285_j16 at h
  obtain ⟨d, rfl⟩ := mm_d1 (n := 5) hd
  intro z2 z3
  show mm_Runs L xs (d + 1) 285 (16, [some (.ref 84), some (.int v1), z2, z3], [], M) o
  refine mm_Runs.seq (l := [(16, .iload_n 1, 1), (17, .iconst 3, 1)]) (S2 := (18, [some (.ref 84), some (.int v1), z2, z3], [.int (3 : Int32), .int v1], M)) (by decide +kernel) (hO := mm_own_285) rfl ?_
  refine mm_R_ine (t := 66) rfl rfl rfl (fun hc => ?_) (fun hc => ?_)
  · replace h := mm_ip hc h
    refine mm_Runs.seq (l := [(21, .aload_n 0, 1), (22, .bipush 31, 2)]) (S2 := (24, [some (.ref 84), some (.int v1), z2, z3], [.int (31 : Int32), .ref 84], M)) (by decide +kernel) (hO := mm_own_285) rfl ?_
    refine mm_R_call (v := mm_wv) h hA (k2 := 245) (as := [.ref 84, .int (31 : Int32)]) (r := []) rfl (fun _ => rfl) (fun q hq o ho => ms_245 (by omega) hq ho) (fun _ M1 h => ?_)
    show mm_Runs L xs (d + 1) 285 (27, [some (.ref 84), some (.int v1), z2, z3], [], M1) o
    refine mm_Runs.seq (l := [(27, .aload_n 0, 1), (28, .sipush 139, 3)]) (S2 := (31, [some (.ref 84), some (.int v1), z2, z3], [.int (139 : Int32), .ref 84], M1)) (by decide +kernel) (hO := mm_own_285) rfl ?_
    refine mm_R_call (v := mm_wv) h hA (k2 := 245) (as := [.ref 84, .int (139 : Int32)]) (r := []) rfl (fun _ => rfl) (fun q hq o ho => ms_245 (by omega) hq ho) (fun _ M2 h => ?_)
    show mm_Runs L xs (d + 1) 285 (34, [some (.ref 84), some (.int v1), z2, z3], [], M2) o
    refine mm_Runs.seq (l := [(34, .aload_n 0, 1), (35, .bipush 8, 2)]) (S2 := (37, [some (.ref 84), some (.int v1), z2, z3], [.int (8 : Int32), .ref 84], M2)) (by decide +kernel) (hO := mm_own_285) rfl ?_
    refine mm_R_call (v := mm_wv) h hA (k2 := 245) (as := [.ref 84, .int (8 : Int32)]) (r := []) rfl (fun _ => rfl) (fun q hq o ho => ms_245 (by omega) hq ho) (fun _ M3 h => ?_)
    show mm_Runs L xs (d + 1) 285 (40, [some (.ref 84), some (.int v1), z2, z3], [], M3) o
    refine mm_Runs.seq (l := [(40, .iconst 0, 1), (41, .istore_n 2, 1)]) (S2 := (42, [some (.ref 84), some (.int v1), some (.int (0 : Int32)), z3], [], M3)) (by decide +kernel) (hO := mm_own_285) rfl ?_
    have hp : mp_285_42 L xs (d + 1) v1 (0 : Int32) M3 o := by
      refine ms_285_L42 hd h hA (fun r5 M4 h => ?_)
      intro y6 y7
      show mm_Runs L xs (d + 1) 285 (59, [some (.ref 84), some (.int v1), y6, y7], [], M4) o
      exact (ms_285_j59 hd h hA : mp_285_59 L xs (d + 1) v1 M4 o) y6 y7
    exact hp z3
  · replace h := mm_iq hc h
    exact (ms_285_j66 hd h hA : mp_285_66 L xs (d + 1) v1 M o) z2 z3
set_option maxRecDepth 8000 in
set_option maxHeartbeats 4000000 in
theorem ms_285 {L : Nat} {xs : Nat → Int32} {d : Nat} (hd : 6 ≤ d) {v1 : Int32} {M : mm_M} {q : (Unit ⊕ Nat) × mm_M} {o : mm_E} (h : mf_285 v1 M = some q) (hA : mm_A (mm_Kr mm_wv) q o) : mm_Runs L xs d 285 (0, mm_ent (mm_ml 285) [.ref 84, .int v1], [], M) o := by
  unfold mf_285 at h
  obtain ⟨d, rfl⟩ := mm_d1 (n := 5) hd
  show mm_Runs L xs (d + 1) 285 (0, [some (.ref 84), some (.int v1), none, none], [], M) o
  refine mm_Runs.seq (l := [(0, .iload_n 1, 1), (1, .iconst 2, 1)]) (S2 := (2, [some (.ref 84), some (.int v1), none, none], [.int (2 : Int32), .int v1], M)) (by decide +kernel) (hO := mm_own_285) rfl ?_
  refine mm_R_ine (t := 16) rfl rfl rfl (fun hc => ?_) (fun hc => ?_)
  · replace h := mm_ip hc h
    refine mm_Runs.seq (l := [(5, .aload_n 0, 1), (6, .bipush 120, 2)]) (S2 := (8, [some (.ref 84), some (.int v1), none, none], [.int (120 : Int32), .ref 84], M)) (by decide +kernel) (hO := mm_own_285) rfl ?_
    refine mm_R_call (v := mm_wv) h hA (k2 := 245) (as := [.ref 84, .int (120 : Int32)]) (r := []) rfl (fun _ => rfl) (fun q hq o ho => ms_245 (by omega) hq ho) (fun _ M1 h => ?_)
    show mm_Runs L xs (d + 1) 285 (11, [some (.ref 84), some (.int v1), none, none], [], M1) o
    refine mm_Runs.seq (l := [(11, .aload_n 0, 1), (12, .iconst 1, 1)]) (S2 := (13, [some (.ref 84), some (.int v1), none, none], [.int (1 : Int32), .ref 84], M1)) (by decide +kernel) (hO := mm_own_285) rfl ?_
    refine mm_R_call (v := mm_wv) h hA (k2 := 245) (as := [.ref 84, .int (1 : Int32)]) (r := []) rfl (fun _ => rfl) (fun q hq o ho => ms_245 (by omega) hq ho) (fun _ M2 h => ?_)
    show mm_Runs L xs (d + 1) 285 (16, [some (.ref 84), some (.int v1), none, none], [], M2) o
    exact (ms_285_j16 hd h hA : mp_285_16 L xs (d + 1) v1 M2 o) none none
  · replace h := mm_iq hc h
    exact (ms_285_j16 hd h hA : mp_285_16 L xs (d + 1) v1 M o) none none
