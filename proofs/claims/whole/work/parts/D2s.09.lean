/-! MEANINGS ARE SOUND 9 -/
-- 100: PlainPacks$Codes.isOver()Z (depth 0)
theorem mm_own_100 : mm_own 100 = 7 := rfl
set_option maxRecDepth 8000 in
set_option maxHeartbeats 4000000 in
theorem ms_100 {L : Nat} {xs : Nat → Int32} {p : Nat} {n : Nat} {d : Nat} (hC : mm_isC p n) (hd : 0 ≤ d) {M : mm_M} {q : (Int32 ⊕ Nat) × mm_M} {o : mm_E} (h : mf_100 p n M = some q) (hA : mm_A (mm_Kr mm_wi) q o) : mm_Runs L xs d 100 (0, mm_ent (mm_ml 100) [.ref p], [], M) o := by
  unfold mf_100 at h
  show mm_Runs L xs (d) 100 (0, [some (.ref p)], [], M) o
  refine mm_Runs.seq (l := [(0, .aload_n 0, 1)]) (S2 := (1, [some (.ref p)], [.ref p], M)) (by decide +kernel) (hO := mm_own_100) rfl ?_
  refine mm_R_getf (ci := 7) (j := 5) (f := .inr .int) rfl rfl (mm_isC_f5 hC) ?_
  show mm_Runs L xs (d) 100 (4, [some (.ref p)], [.int (M.1 p 5)], M) o
  refine mm_Runs.seq (l := [(4, .ldc 41, 2)]) (S2 := (6, [some (.ref p)], [.int (1048576 : Int32), .int (M.1 p 5)], M)) (by decide +kernel) (hO := mm_own_100) rfl ?_
  refine mm_R_ile (t := 13) rfl rfl rfl (fun hc => ?_) (fun hc => ?_)
  · replace h := mm_ip hc h
    refine mm_Runs.seq (l := [(9, .iconst 1, 1), (10, .goto 4, 3)]) (S2 := (14, [some (.ref p)], [.int (1 : Int32)], M)) (by decide +kernel) (hO := mm_own_100) rfl ?_
    cases h
    exact mm_R_retb rfl rfl rfl hA
  · replace h := mm_iq hc h
    refine mm_Runs.seq (l := [(13, .iconst 0, 1)]) (S2 := (14, [some (.ref p)], [.int (0 : Int32)], M)) (by decide +kernel) (hO := mm_own_100) rfl ?_
    cases h
    exact mm_R_retb rfl rfl rfl hA
-- 142: PlainPacks$Sorted.readTable(LPlainPacks$Codes;)V (depth 9)
theorem mm_own_142 : mm_own 142 = 10 := rfl
def mp_142_26 (L : Nat) (xs : Nat → Int32) (p : Nat) (n : Nat) (d : Nat) (v2 : Int32) (s0 : Int32) (M : mm_M) (o : mm_E) : Prop := ∀ z3 z4 : Option Value, mm_Runs L xs d 142 (26, [some (.ref 42), some (.ref p), some (.int v2), z3, z4], [.int s0], M) o
def mp_142_31 (L : Nat) (xs : Nat → Int32) (p : Nat) (n : Nat) (d : Nat) (v2 : Int32) (v3 : Int32) (M : mm_M) (o : mm_E) : Prop := ∀ z4 : Option Value, mm_Runs L xs d 142 (31, [some (.ref 42), some (.ref p), some (.int v2), some (.int v3), z4], [], M) o
def mp_142_118 (L : Nat) (xs : Nat → Int32) (p : Nat) (n : Nat) (d : Nat) (M : mm_M) (o : mm_E) : Prop := ∀ z2 z3 z4 : Option Value, mm_Runs L xs d 142 (118, [some (.ref 42), some (.ref p), z2, z3, z4], [], M) o
def mp_142_44 (L : Nat) (xs : Nat → Int32) (p : Nat) (n : Nat) (d : Nat) (v2 : Int32) (v3 : Int32) (v4 : Int32) (M : mm_M) (o : mm_E) : Prop := mm_Runs L xs d 142 (44, [some (.ref 42), some (.ref p), some (.int v2), some (.int v3), some (.int v4)], [], M) o
def mp_142_105 (L : Nat) (xs : Nat → Int32) (p : Nat) (n : Nat) (d : Nat) (v2 : Int32) (v3 : Int32) (M : mm_M) (o : mm_E) : Prop := ∀ z4 : Option Value, mm_Runs L xs d 142 (105, [some (.ref 42), some (.ref p), some (.int v2), some (.int v3), z4], [], M) o
def mp_142_78 (L : Nat) (xs : Nat → Int32) (p : Nat) (n : Nat) (d : Nat) (v3 : Int32) (v4 : Int32) (s0 : Int32) (s1 : Int32) (M : mm_M) (o : mm_E) : Prop := ∀ z2 : Option Value, mm_Runs L xs d 142 (78, [some (.ref 42), some (.ref p), z2, some (.int v3), some (.int v4)], [.int s1, .int s0], M) o
def mp_142_96 (L : Nat) (xs : Nat → Int32) (p : Nat) (n : Nat) (d : Nat) (v2 : Int32) (v3 : Int32) (v4 : Int32) (s0 : Int32) (M : mm_M) (o : mm_E) : Prop := mm_Runs L xs d 142 (96, [some (.ref 42), some (.ref p), some (.int v2), some (.int v3), some (.int v4)], [.int s0], M) o
set_option maxRecDepth 8000 in
set_option maxHeartbeats 4000000 in
theorem ms_142_j96 {L : Nat} {xs : Nat → Int32} {p : Nat} {n : Nat} {d : Nat} (hC : mm_isC p n) (hd : 9 ≤ d) {v2 : Int32} {v3 : Int32} {v4 : Int32} {s0 : Int32} {M : mm_M} {q : (((Int32 × Int32) ⊕ (Int32)) ⊕ Nat) × mm_M} {o : mm_E} (h : mf_142_j96 p n v2 v3 v4 s0 M = some q) (hA : mm_A (mm_K2 (fun s M o => mp_142_44 L xs p n (d) s.1 v3 s.2 M o) (fun r M o => mp_142_105 L xs p n (d) r v3 M o)) q o) : mp_142_96 L xs p n d v2 v3 v4 s0 M o := by
  unfold mf_142_j96 at h
  obtain ⟨d, rfl⟩ := mm_d1 (n := 8) hd
  show mm_Runs L xs (d + 1) 142 (96, [some (.ref 42), some (.ref p), some (.int v2), some (.int v3), some (.int v4)], [.int s0], M) o
  refine mm_R_call (v := mm_wv) h hA (k2 := 27) (as := [.int s0]) (r := []) rfl (fun _ => rfl) (fun q hq o ho => ms_27 (by omega) hq ho) (fun _ M1 h => ?_)
  show mm_Runs L xs (d + 1) 142 (99, [some (.ref 42), some (.ref p), some (.int v2), some (.int v3), some (.int v4)], [], M1) o
  refine mm_Runs.seq (l := [(99, .iinc 4 1, 3), (102, .goto (-58), 3)]) (S2 := (44, [some (.ref 42), some (.ref p), some (.int v2), some (.int v3), some (.int (v4 + (1 : Int32)))], [], M1)) (by decide +kernel) (hO := mm_own_142) rfl ?_
  cases h
  exact (show mp_142_44 L xs p n (d + 1) v2 v3 (v4 + (1 : Int32)) M1 o from hA)
set_option maxRecDepth 8000 in
set_option maxHeartbeats 4000000 in
theorem ms_142_j78 {L : Nat} {xs : Nat → Int32} {p : Nat} {n : Nat} {d : Nat} (hC : mm_isC p n) (hd : 9 ≤ d) {v3 : Int32} {v4 : Int32} {s0 : Int32} {s1 : Int32} {M : mm_M} {q : (((Int32 × Int32) ⊕ (Int32)) ⊕ Nat) × mm_M} {o : mm_E} (h : mf_142_j78 p n v3 v4 s0 s1 M = some q) (hA : mm_A (mm_K2 (fun s M o => mp_142_44 L xs p n (d) s.1 v3 s.2 M o) (fun r M o => mp_142_105 L xs p n (d) r v3 M o)) q o) : mp_142_78 L xs p n d v3 v4 s0 s1 M o := by
  unfold mf_142_j78 at h
  obtain ⟨d, rfl⟩ := mm_d1 (n := 8) hd
  intro z2
  show mm_Runs L xs (d + 1) 142 (78, [some (.ref 42), some (.ref p), z2, some (.int v3), some (.int v4)], [.int s1, .int s0], M) o
  refine mm_Runs.seq (l := [(78, .iadd, 1), (79, .istore_n 2, 1), (80, .iload_n 2, 1), (81, .iconst 1, 1)]) (S2 := (82, [some (.ref 42), some (.ref p), some (.int (s0 + s1)), some (.int v3), some (.int v4)], [.int (1 : Int32), .int (s0 + s1)], M)) (by decide +kernel) (hO := mm_own_142) rfl ?_
  refine mm_R_ilt (t := 91) rfl rfl rfl (fun hc => ?_) (fun hc => ?_)
  · replace h := mm_ip hc h
    refine mm_Runs.seq (l := [(91, .iconst 1, 1), (92, .goto 4, 3)]) (S2 := (96, [some (.ref 42), some (.ref p), some (.int (s0 + s1)), some (.int v3), some (.int v4)], [.int (1 : Int32)], M)) (by decide +kernel) (hO := mm_own_142) rfl ?_
    exact (ms_142_j96 hC hd h hA : mp_142_96 L xs p n (d + 1) (s0 + s1) v3 v4 (1 : Int32) M o)
  · replace h := mm_iq hc h
    refine mm_Runs.seq (l := [(85, .iload_n 2, 1), (86, .bipush 20, 2)]) (S2 := (88, [some (.ref 42), some (.ref p), some (.int (s0 + s1)), some (.int v3), some (.int v4)], [.int (20 : Int32), .int (s0 + s1)], M)) (by decide +kernel) (hO := mm_own_142) rfl ?_
    refine mm_R_ile (t := 95) rfl rfl rfl (fun hc => ?_) (fun hc => ?_)
    · replace h := mm_ip hc h
      refine mm_Runs.seq (l := [(91, .iconst 1, 1), (92, .goto 4, 3)]) (S2 := (96, [some (.ref 42), some (.ref p), some (.int (s0 + s1)), some (.int v3), some (.int v4)], [.int (1 : Int32)], M)) (by decide +kernel) (hO := mm_own_142) rfl ?_
      exact (ms_142_j96 hC hd h hA : mp_142_96 L xs p n (d + 1) (s0 + s1) v3 v4 (1 : Int32) M o)
    · replace h := mm_iq hc h
      refine mm_Runs.seq (l := [(95, .iconst 0, 1)]) (S2 := (96, [some (.ref 42), some (.ref p), some (.int (s0 + s1)), some (.int v3), some (.int v4)], [.int (0 : Int32)], M)) (by decide +kernel) (hO := mm_own_142) rfl ?_
      exact (ms_142_j96 hC hd h hA : mp_142_96 L xs p n (d + 1) (s0 + s1) v3 v4 (0 : Int32) M o)
set_option maxRecDepth 8000 in
set_option maxHeartbeats 4000000 in
theorem ms_142_b44 {L : Nat} {xs : Nat → Int32} {p : Nat} {n : Nat} {d : Nat} (hC : mm_isC p n) (hd : 9 ≤ d) {v2 : Int32} {v3 : Int32} {v4 : Int32} {M : mm_M} {q : (((Int32 × Int32) ⊕ (Int32)) ⊕ Nat) × mm_M} {o : mm_E} (h : mf_142_b44 p n v2 v3 v4 M = some q) (hA : mm_A (mm_K2 (fun s M o => mp_142_44 L xs p n (d) s.1 v3 s.2 M o) (fun r M o => mp_142_105 L xs p n (d) r v3 M o)) q o) : mp_142_44 L xs p n d v2 v3 v4 M o := by
  unfold mf_142_b44 at h
  obtain ⟨d, rfl⟩ := mm_d1 (n := 8) hd
  show mm_Runs L xs (d + 1) 142 (44, [some (.ref 42), some (.ref p), some (.int v2), some (.int v3), some (.int v4)], [], M) o
  refine mm_Runs.seq (l := [(44, .iload 4, 2), (46, .ldc 69, 2)]) (S2 := (48, [some (.ref 42), some (.ref p), some (.int v2), some (.int v3), some (.int v4)], [.int (1000000 : Int32), .int v4], M)) (by decide +kernel) (hO := mm_own_142) rfl ?_
  refine mm_R_ige (t := 105) rfl rfl rfl (fun hc => ?_) (fun hc => ?_)
  · replace h := mm_ip hc h
    refine mm_Runs.seq (l := [(51, .aload_n 0, 1), (52, .getfield 36, 3)]) (S2 := (55, [some (.ref 42), some (.ref p), some (.int v2), some (.int v3), some (.int v4)], [.ref 1], M)) (by decide +kernel) (hO := mm_own_142) rfl ?_
    refine mm_R_call (v := mm_wi) h hA (k2 := 45) (as := [.ref 1]) (r := []) rfl (fun _ => rfl) (fun q hq o ho => ms_45 (by omega) hq ho) (fun r1 M2 h => ?_)
    show mm_Runs L xs (d + 1) 142 (58, [some (.ref 42), some (.ref p), some (.int v2), some (.int v3), some (.int v4)], [.int r1], M2) o
    refine mm_Runs.seq (l := [(58, .iconst 1, 1)]) (S2 := (59, [some (.ref 42), some (.ref p), some (.int v2), some (.int v3), some (.int v4)], [.int (1 : Int32), .int r1], M2)) (by decide +kernel) (hO := mm_own_142) rfl ?_
    refine mm_R_ine (t := 105) rfl rfl rfl (fun hc => ?_) (fun hc => ?_)
    · replace h := mm_ip hc h
      refine mm_Runs.seq (l := [(62, .iload_n 2, 1), (63, .aload_n 0, 1), (64, .getfield 36, 3)]) (S2 := (67, [some (.ref 42), some (.ref p), some (.int v2), some (.int v3), some (.int v4)], [.ref 1, .int v2], M2)) (by decide +kernel) (hO := mm_own_142) rfl ?_
      refine mm_R_call (v := mm_wi) h hA (k2 := 45) (as := [.ref 1]) (r := [.int v2]) rfl (fun _ => rfl) (fun q hq o ho => ms_45 (by omega) hq ho) (fun r3 M4 h => ?_)
      show mm_Runs L xs (d + 1) 142 (70, [some (.ref 42), some (.ref p), some (.int v2), some (.int v3), some (.int v4)], [.int r3, .int v2], M4) o
      refine mm_R_zne (t := 77) rfl rfl rfl (fun hc => ?_) (fun hc => ?_)
      · replace h := mm_ip hc h
        refine mm_Runs.seq (l := [(73, .iconst 1, 1), (74, .goto 4, 3)]) (S2 := (78, [some (.ref 42), some (.ref p), some (.int v2), some (.int v3), some (.int v4)], [.int (1 : Int32), .int v2], M4)) (by decide +kernel) (hO := mm_own_142) rfl ?_
        exact (ms_142_j78 hC hd h hA : mp_142_78 L xs p n (d + 1) v3 v4 v2 (1 : Int32) M4 o) (some (.int v2))
      · replace h := mm_iq hc h
        refine mm_Runs.seq (l := [(77, .iconst (-1), 1)]) (S2 := (78, [some (.ref 42), some (.ref p), some (.int v2), some (.int v3), some (.int v4)], [.int (-1 : Int32), .int v2], M4)) (by decide +kernel) (hO := mm_own_142) rfl ?_
        exact (ms_142_j78 hC hd h hA : mp_142_78 L xs p n (d + 1) v3 v4 v2 (-1 : Int32) M4 o) (some (.int v2))
    · replace h := mm_iq hc h
      cases h
      exact (show mp_142_105 L xs p n (d + 1) v2 v3 M2 o from hA) (some (.int v4))
  · replace h := mm_iq hc h
    cases h
    exact (show mp_142_105 L xs p n (d + 1) v2 v3 M o from hA) (some (.int v4))
theorem ms_142_L44 {L : Nat} {xs : Nat → Int32} {p : Nat} {n : Nat} {d : Nat} (hC : mm_isC p n) (hd : 9 ≤ d) {v2 : Int32} {v3 : Int32} {v4 : Int32} {β : Type} {K : β → mm_M → mm_E → Prop} {F : (Int32) → mm_M → mm_O β} {M : mm_M} {q : (β ⊕ Nat) × mm_M} {o : mm_E} (h : mm_B (mf_142_L44 p n v3 (v2, v4) M) F = some q) (hA : mm_A K q o) (hx : ∀ (r : (Int32)) (M2 : mm_M), F r M2 = some q → (fun r M o => mp_142_105 L xs p n (d) r v3 M o) r M2 o) : mp_142_44 L xs p n d v2 v3 v4 M o := by
  unfold mf_142_L44 at h
  exact mm_R_loop (step := (fun s M => mf_142_b44 p n s.1 v3 s.2 M)) (s := (v2, v4)) (M := M) (P := (fun s M o => mp_142_44 L xs p n (d) s.1 v3 s.2 M o)) (X := (fun r M o => mp_142_105 L xs p n (d) r v3 M o)) h hA (fun s M q hq hA => ms_142_b44 hC (v2 := s.1) (v3 := v3) (v4 := s.2) (M := M) (q := q) hd hq hA) hx
set_option maxRecDepth 8000 in
set_option maxHeartbeats 4000000 in
theorem ms_142_j105 {L : Nat} {xs : Nat → Int32} {p : Nat} {n : Nat} {d : Nat} (hC : mm_isC p n) (hd : 9 ≤ d) {v2 : Int32} {v3 : Int32} {M : mm_M} {q : (((Int32 × Int32) ⊕ (Unit)) ⊕ Nat) × mm_M} {o : mm_E} (h : mf_142_j105 p n v2 v3 M = some q) (hA : mm_A (mm_K2 (fun s M o => mp_142_31 L xs p n (d) s.1 s.2 M o) (fun r M o => mp_142_118 L xs p n (d) M o)) q o) : mp_142_105 L xs p n d v2 v3 M o := by
  unfold mf_142_j105 at h
  obtain ⟨d, rfl⟩ := mm_d1 (n := 8) hd
  intro z4
  show mm_Runs L xs (d + 1) 142 (105, [some (.ref 42), some (.ref p), some (.int v2), some (.int v3), z4], [], M) o
  refine mm_Runs.seq (l := [(105, .aload_n 1, 1)]) (S2 := (106, [some (.ref 42), some (.ref p), some (.int v2), some (.int v3), z4], [.ref p], M)) (by decide +kernel) (hO := mm_own_142) rfl ?_
  refine mm_R_getf (ci := 7) (j := 0) (f := .inl (p + 1)) rfl rfl (mm_isC_f0 hC) ?_
  show mm_Runs L xs (d + 1) 142 (109, [some (.ref 42), some (.ref p), some (.int v2), some (.int v3), z4], [.ref (p + 1)], M) o
  refine mm_Runs.seq (l := [(109, .iload_n 3, 1), (110, .iload_n 2, 1)]) (S2 := (111, [some (.ref 42), some (.ref p), some (.int v2), some (.int v3), z4], [.int v2, .int v3, .ref (p + 1)], M)) (by decide +kernel) (hO := mm_own_142) rfl ?_
  obtain ⟨hb, h⟩ := mm_gd h
  refine mm_R_iast rfl (mm_isC_a1 hC) hb ?_
  refine mm_Runs.seq (l := [(112, .iinc 3 1, 3), (115, .goto (-84), 3)]) (S2 := (31, [some (.ref 42), some (.ref p), some (.int v2), some (.int (v3 + (1 : Int32))), z4], [], (mm_pi M (p + 1) v3.toNatClampNeg v2))) (by decide +kernel) (hO := mm_own_142) rfl ?_
  cases h
  exact (show mp_142_31 L xs p n (d + 1) v2 (v3 + (1 : Int32)) (mm_pi M (p + 1) v3.toNatClampNeg v2) o from hA) z4
set_option maxRecDepth 8000 in
set_option maxHeartbeats 4000000 in
theorem ms_142_b31 {L : Nat} {xs : Nat → Int32} {p : Nat} {n : Nat} {d : Nat} (hC : mm_isC p n) (hd : 9 ≤ d) {v2 : Int32} {v3 : Int32} {M : mm_M} {q : (((Int32 × Int32) ⊕ (Unit)) ⊕ Nat) × mm_M} {o : mm_E} (h : mf_142_b31 p n v2 v3 M = some q) (hA : mm_A (mm_K2 (fun s M o => mp_142_31 L xs p n (d) s.1 s.2 M o) (fun r M o => mp_142_118 L xs p n (d) M o)) q o) : mp_142_31 L xs p n d v2 v3 M o := by
  unfold mf_142_b31 at h
  obtain ⟨d, rfl⟩ := mm_d1 (n := 8) hd
  intro z4
  show mm_Runs L xs (d + 1) 142 (31, [some (.ref 42), some (.ref p), some (.int v2), some (.int v3), z4], [], M) o
  refine mm_Runs.seq (l := [(31, .iload_n 3, 1), (32, .aload_n 0, 1), (33, .getfield 125, 3), (36, .iconst 2, 1), (37, .iadd, 1)]) (S2 := (38, [some (.ref 42), some (.ref p), some (.int v2), some (.int v3), z4], [.int ((M.1 42 9) + (2 : Int32)), .int v3], M)) (by decide +kernel) (hO := mm_own_142) rfl ?_
  refine mm_R_ige (t := 118) rfl rfl rfl (fun hc => ?_) (fun hc => ?_)
  · replace h := mm_ip hc h
    refine mm_Runs.seq (l := [(41, .iconst 0, 1), (42, .istore 4, 2)]) (S2 := (44, [some (.ref 42), some (.ref p), some (.int v2), some (.int v3), some (.int (0 : Int32))], [], M)) (by decide +kernel) (hO := mm_own_142) rfl ?_
    have hp : mp_142_44 L xs p n (d + 1) v2 v3 (0 : Int32) M o := by
      refine ms_142_L44 hC hd h hA (fun r2 M1 h => ?_)
      intro y3
      show mm_Runs L xs (d + 1) 142 (105, [some (.ref 42), some (.ref p), some (.int r2), some (.int v3), y3], [], M1) o
      exact (ms_142_j105 hC hd h hA : mp_142_105 L xs p n (d + 1) r2 v3 M1 o) y3
    exact hp
  · replace h := mm_iq hc h
    cases h
    exact (show mp_142_118 L xs p n (d + 1) M o from hA) (some (.int v2)) (some (.int v3)) z4
theorem ms_142_L31 {L : Nat} {xs : Nat → Int32} {p : Nat} {n : Nat} {d : Nat} (hC : mm_isC p n) (hd : 9 ≤ d) {v2 : Int32} {v3 : Int32} {β : Type} {K : β → mm_M → mm_E → Prop} {F : (Unit) → mm_M → mm_O β} {M : mm_M} {q : (β ⊕ Nat) × mm_M} {o : mm_E} (h : mm_B (mf_142_L31 p n (v2, v3) M) F = some q) (hA : mm_A K q o) (hx : ∀ (r : (Unit)) (M2 : mm_M), F r M2 = some q → (fun r M o => mp_142_118 L xs p n (d) M o) r M2 o) : mp_142_31 L xs p n d v2 v3 M o := by
  unfold mf_142_L31 at h
  exact mm_R_loop (step := (fun s M => mf_142_b31 p n s.1 s.2 M)) (s := (v2, v3)) (M := M) (P := (fun s M o => mp_142_31 L xs p n (d) s.1 s.2 M o)) (X := (fun r M o => mp_142_118 L xs p n (d) M o)) h hA (fun s M q hq hA => ms_142_b31 hC (v2 := s.1) (v3 := s.2) (M := M) (q := q) hd hq hA) hx
set_option maxRecDepth 8000 in
set_option maxHeartbeats 4000000 in
theorem ms_142_j118 {L : Nat} {xs : Nat → Int32} {p : Nat} {n : Nat} {d : Nat} (hC : mm_isC p n) (hd : 9 ≤ d) {M : mm_M} {q : (Unit ⊕ Nat) × mm_M} {o : mm_E} (h : mf_142_j118 p n M = some q) (hA : mm_A (mm_Kr mm_wv) q o) : mp_142_118 L xs p n d M o := by
  unfold mf_142_j118 at h
  obtain ⟨d, rfl⟩ := mm_d1 (n := 8) hd
  intro z2 z3 z4
  show mm_Runs L xs (d + 1) 142 (118, [some (.ref 42), some (.ref p), z2, z3, z4], [], M) o
  refine mm_Runs.seq (l := [(118, .aload_n 1, 1), (119, .aload_n 0, 1), (120, .getfield 125, 3), (123, .iconst 2, 1), (124, .iadd, 1)]) (S2 := (125, [some (.ref 42), some (.ref p), z2, z3, z4], [.int ((M.1 42 9) + (2 : Int32)), .ref p], M)) (by decide +kernel) (hO := mm_own_142) rfl ?_
  refine mm_R_call (v := mm_wv) h hA (k2 := 99) (as := [.ref p, .int ((M.1 42 9) + (2 : Int32))]) (r := []) (mm_site_v (idx := 138) rfl rfl rfl rfl (mm_isC_cls hC) rfl rfl) (fun _ => rfl) (fun q hq o ho => ms_99 hC (by omega) hq ho) (fun _ M1 h => ?_)
  show mm_Runs L xs (d + 1) 142 (128, [some (.ref 42), some (.ref p), z2, z3, z4], [], M1) o
  refine mm_Runs.seq (l := [(128, .aload_n 1, 1)]) (S2 := (129, [some (.ref 42), some (.ref p), z2, z3, z4], [.ref p], M1)) (by decide +kernel) (hO := mm_own_142) rfl ?_
  refine mm_R_call (v := mm_wi) h hA (k2 := 100) (as := [.ref p]) (r := []) (mm_site_v (idx := 141) rfl rfl rfl rfl (mm_isC_cls hC) rfl rfl) (fun _ => rfl) (fun q hq o ho => ms_100 hC (by omega) hq ho) (fun r2 M3 h => ?_)
  show mm_Runs L xs (d + 1) 142 (132, [some (.ref 42), some (.ref p), z2, z3, z4], [.int r2], M3) o
  refine mm_R_call (v := mm_wv) h hA (k2 := 27) (as := [.int r2]) (r := []) rfl (fun _ => rfl) (fun q hq o ho => ms_27 (by omega) hq ho) (fun _ M4 h => ?_)
  show mm_Runs L xs (d + 1) 142 (135, [some (.ref 42), some (.ref p), z2, z3, z4], [], M4) o
  cases h
  exact mm_R_retv rfl rfl hA
set_option maxRecDepth 8000 in
set_option maxHeartbeats 4000000 in
theorem ms_142_j26 {L : Nat} {xs : Nat → Int32} {p : Nat} {n : Nat} {d : Nat} (hC : mm_isC p n) (hd : 9 ≤ d) {v2 : Int32} {s0 : Int32} {M : mm_M} {q : (Unit ⊕ Nat) × mm_M} {o : mm_E} (h : mf_142_j26 p n v2 s0 M = some q) (hA : mm_A (mm_Kr mm_wv) q o) : mp_142_26 L xs p n d v2 s0 M o := by
  unfold mf_142_j26 at h
  obtain ⟨d, rfl⟩ := mm_d1 (n := 8) hd
  intro z3 z4
  show mm_Runs L xs (d + 1) 142 (26, [some (.ref 42), some (.ref p), some (.int v2), z3, z4], [.int s0], M) o
  refine mm_R_call (v := mm_wv) h hA (k2 := 27) (as := [.int s0]) (r := []) rfl (fun _ => rfl) (fun q hq o ho => ms_27 (by omega) hq ho) (fun _ M1 h => ?_)
  show mm_Runs L xs (d + 1) 142 (29, [some (.ref 42), some (.ref p), some (.int v2), z3, z4], [], M1) o
  refine mm_Runs.seq (l := [(29, .iconst 0, 1), (30, .istore_n 3, 1)]) (S2 := (31, [some (.ref 42), some (.ref p), some (.int v2), some (.int (0 : Int32)), z4], [], M1)) (by decide +kernel) (hO := mm_own_142) rfl ?_
  have hp : mp_142_31 L xs p n (d + 1) v2 (0 : Int32) M1 o := by
    refine ms_142_L31 hC hd h hA (fun r3 M2 h => ?_)
    intro y4 y5 y6
    show mm_Runs L xs (d + 1) 142 (118, [some (.ref 42), some (.ref p), y4, y5, y6], [], M2) o
    exact (ms_142_j118 hC hd h hA : mp_142_118 L xs p n (d + 1) M2 o) y4 y5 y6
  exact hp z4
set_option maxRecDepth 8000 in
set_option maxHeartbeats 4000000 in
theorem ms_142 {L : Nat} {xs : Nat → Int32} {p : Nat} {n : Nat} {d : Nat} (hC : mm_isC p n) (hd : 9 ≤ d) {M : mm_M} {q : (Unit ⊕ Nat) × mm_M} {o : mm_E} (h : mf_142 p n M = some q) (hA : mm_A (mm_Kr mm_wv) q o) : mm_Runs L xs d 142 (0, mm_ent (mm_ml 142) [.ref 42, .ref p], [], M) o := by
  unfold mf_142 at h
  obtain ⟨d, rfl⟩ := mm_d1 (n := 8) hd
  show mm_Runs L xs (d + 1) 142 (0, [some (.ref 42), some (.ref p), none, none, none], [], M) o
  refine mm_Runs.seq (l := [(0, .aload_n 0, 1), (1, .getfield 36, 3), (4, .iconst 5, 1)]) (S2 := (5, [some (.ref 42), some (.ref p), none, none, none], [.int (5 : Int32), .ref 1], M)) (by decide +kernel) (hO := mm_own_142) rfl ?_
  refine mm_R_call (v := mm_wl) h hA (k2 := 46) (as := [.ref 1, .int (5 : Int32)]) (r := []) rfl (fun _ => rfl) (fun q hq o ho => ms_46 (by omega) hq ho) (fun r1 M2 h => ?_)
  show mm_Runs L xs (d + 1) 142 (8, [some (.ref 42), some (.ref p), none, none, none], [.long r1], M2) o
  refine mm_Runs.seq (l := [(8, .l2i, 1), (9, .istore_n 2, 1), (10, .iload_n 2, 1), (11, .iconst 1, 1)]) (S2 := (12, [some (.ref 42), some (.ref p), some (.int r1.toInt32), none, none], [.int (1 : Int32), .int r1.toInt32], M2)) (by decide +kernel) (hO := mm_own_142) rfl ?_
  refine mm_R_ilt (t := 21) rfl rfl rfl (fun hc => ?_) (fun hc => ?_)
  · replace h := mm_ip hc h
    refine mm_Runs.seq (l := [(21, .iconst 1, 1), (22, .goto 4, 3)]) (S2 := (26, [some (.ref 42), some (.ref p), some (.int r1.toInt32), none, none], [.int (1 : Int32)], M2)) (by decide +kernel) (hO := mm_own_142) rfl ?_
    exact (ms_142_j26 hC hd h hA : mp_142_26 L xs p n (d + 1) r1.toInt32 (1 : Int32) M2 o) none none
  · replace h := mm_iq hc h
    refine mm_Runs.seq (l := [(15, .iload_n 2, 1), (16, .bipush 20, 2)]) (S2 := (18, [some (.ref 42), some (.ref p), some (.int r1.toInt32), none, none], [.int (20 : Int32), .int r1.toInt32], M2)) (by decide +kernel) (hO := mm_own_142) rfl ?_
    refine mm_R_ile (t := 25) rfl rfl rfl (fun hc => ?_) (fun hc => ?_)
    · replace h := mm_ip hc h
      refine mm_Runs.seq (l := [(21, .iconst 1, 1), (22, .goto 4, 3)]) (S2 := (26, [some (.ref 42), some (.ref p), some (.int r1.toInt32), none, none], [.int (1 : Int32)], M2)) (by decide +kernel) (hO := mm_own_142) rfl ?_
      exact (ms_142_j26 hC hd h hA : mp_142_26 L xs p n (d + 1) r1.toInt32 (1 : Int32) M2 o) none none
    · replace h := mm_iq hc h
      refine mm_Runs.seq (l := [(25, .iconst 0, 1)]) (S2 := (26, [some (.ref 42), some (.ref p), some (.int r1.toInt32), none, none], [.int (0 : Int32)], M2)) (by decide +kernel) (hO := mm_own_142) rfl ?_
      exact (ms_142_j26 hC hd h hA : mp_142_26 L xs p n (d + 1) r1.toInt32 (0 : Int32) M2 o) none none
-- 144: PlainPacks$Sorted.addBytes(IJ)V (depth 8)
theorem mm_own_144 : mm_own 144 = 10 := rfl
def mp_144_19 (L : Nat) (xs : Nat → Int32) (d : Nat) (v1 : Int32) (v2 : Int64) (s0 : Int32) (M : mm_M) (o : mm_E) : Prop := ∀ z3 z4 : Option Value, mm_Runs L xs d 144 (19, [some (.ref 42), some (.int v1), some (.long v2), z3, z4], [.int s0], M) o
def mp_144_25 (L : Nat) (xs : Nat → Int32) (d : Nat) (v1 : Int32) (v2 : Int64) (v4 : Int32) (M : mm_M) (o : mm_E) : Prop := ∀ z3 : Option Value, mm_Runs L xs d 144 (25, [some (.ref 42), some (.int v1), some (.long v2), z3, some (.int v4)], [], M) o
def mp_144_59 (L : Nat) (xs : Nat → Int32) (d : Nat) (M : mm_M) (o : mm_E) : Prop := ∀ z0 z1 z2 z3 z4 : Option Value, mm_Runs L xs d 144 (59, [z0, z1, z2, z3, z4], [], M) o
set_option maxRecDepth 8000 in
set_option maxHeartbeats 4000000 in
theorem ms_144_b25 {L : Nat} {xs : Nat → Int32} {d : Nat} (hd : 8 ≤ d) {v1 : Int32} {v2 : Int64} {v4 : Int32} {M : mm_M} {q : (((Int32) ⊕ (Unit)) ⊕ Nat) × mm_M} {o : mm_E} (h : mf_144_b25 v1 v2 v4 M = some q) (hA : mm_A (mm_K2 (fun s M o => mp_144_25 L xs (d) v1 v2 s M o) (fun r M o => mp_144_59 L xs (d) M o)) q o) : mp_144_25 L xs d v1 v2 v4 M o := by
  unfold mf_144_b25 at h
  obtain ⟨d, rfl⟩ := mm_d1 (n := 7) hd
  intro z3
  show mm_Runs L xs (d + 1) 144 (25, [some (.ref 42), some (.int v1), some (.long v2), z3, some (.int v4)], [], M) o
  refine mm_Runs.seq (l := [(25, .iload 4, 2), (27, .i2l, 1), (28, .lload_n 2, 1)]) (S2 := (29, [some (.ref 42), some (.int v1), some (.long v2), z3, some (.int v4)], [.long v2, .long v4.toInt64], M)) (by decide +kernel) (hO := mm_own_144) rfl ?_
  refine mm_R_lge (t := 59) rfl rfl rfl rfl (fun hc => ?_) (fun hc => ?_)
  · replace h := mm_ip hc h
    refine mm_Runs.seq (l := [(33, .aload_n 0, 1), (34, .getfield 27, 3), (37, .aload_n 0, 1), (38, .getfield 124, 3), (41, .iload_n 1, 1)]) (S2 := (42, [some (.ref 42), some (.int v1), some (.long v2), z3, some (.int v4)], [.int v1, .int (M.1 42 12), .ref 47], M)) (by decide +kernel) (hO := mm_own_144) rfl ?_
    obtain ⟨hb, h⟩ := mm_gd h
    refine mm_R_iast rfl rfl hb ?_
    refine mm_Runs.seq (l := [(43, .aload_n 0, 1), (44, .dup, 1), (45, .getfield 124, 3), (48, .iconst 1, 1), (49, .iadd, 1), (50, .putfield 124, 3), (53, .iinc 4 1, 3), (56, .goto (-31), 3)]) (S2 := (25, [some (.ref 42), some (.int v1), some (.long v2), (mm_no2 z3), some (.int (v4 + (1 : Int32)))], [], (mm_pi (mm_pi M 47 (M.1 42 12).toNatClampNeg v1) 42 12 ((M.1 42 12) + (1 : Int32))))) (by decide +kernel) (hO := mm_own_144) rfl ?_
    cases h
    exact (show mp_144_25 L xs (d + 1) v1 v2 (v4 + (1 : Int32)) (mm_pi (mm_pi M 47 (M.1 42 12).toNatClampNeg v1) 42 12 ((M.1 42 12) + (1 : Int32))) o from hA) ((mm_no2 z3))
  · replace h := mm_iq hc h
    cases h
    exact (show mp_144_59 L xs (d + 1) M o from hA) (some (.ref 42)) (some (.int v1)) (some (.long v2)) z3 (some (.int v4))
theorem ms_144_L25 {L : Nat} {xs : Nat → Int32} {d : Nat} (hd : 8 ≤ d) {v1 : Int32} {v2 : Int64} {v4 : Int32} {β : Type} {K : β → mm_M → mm_E → Prop} {F : (Unit) → mm_M → mm_O β} {M : mm_M} {q : (β ⊕ Nat) × mm_M} {o : mm_E} (h : mm_B (mf_144_L25 v1 v2 v4 M) F = some q) (hA : mm_A K q o) (hx : ∀ (r : (Unit)) (M2 : mm_M), F r M2 = some q → (fun r M o => mp_144_59 L xs (d) M o) r M2 o) : mp_144_25 L xs d v1 v2 v4 M o := by
  unfold mf_144_L25 at h
  exact mm_R_loop (step := (fun s M => mf_144_b25 v1 v2 s M)) (s := v4) (M := M) (P := (fun s M o => mp_144_25 L xs (d) v1 v2 s M o)) (X := (fun r M o => mp_144_59 L xs (d) M o)) h hA (fun s M q hq hA => ms_144_b25 (v1 := v1) (v2 := v2) (v4 := s) (M := M) (q := q) hd hq hA) hx
set_option maxRecDepth 8000 in
set_option maxHeartbeats 4000000 in
theorem ms_144_j19 {L : Nat} {xs : Nat → Int32} {d : Nat} (hd : 8 ≤ d) {v1 : Int32} {v2 : Int64} {s0 : Int32} {M : mm_M} {q : (Unit ⊕ Nat) × mm_M} {o : mm_E} (h : mf_144_j19 v1 v2 s0 M = some q) (hA : mm_A (mm_Kr mm_wv) q o) : mp_144_19 L xs d v1 v2 s0 M o := by
  unfold mf_144_j19 at h
  obtain ⟨d, rfl⟩ := mm_d1 (n := 7) hd
  intro z3 z4
  show mm_Runs L xs (d + 1) 144 (19, [some (.ref 42), some (.int v1), some (.long v2), z3, z4], [.int s0], M) o
  refine mm_R_call (v := mm_wv) h hA (k2 := 27) (as := [.int s0]) (r := []) rfl (fun _ => rfl) (fun q hq o ho => ms_27 (by omega) hq ho) (fun _ M1 h => ?_)
  show mm_Runs L xs (d + 1) 144 (22, [some (.ref 42), some (.int v1), some (.long v2), z3, z4], [], M1) o
  refine mm_Runs.seq (l := [(22, .iconst 0, 1), (23, .istore 4, 2)]) (S2 := (25, [some (.ref 42), some (.int v1), some (.long v2), (mm_no2 z3), some (.int (0 : Int32))], [], M1)) (by decide +kernel) (hO := mm_own_144) rfl ?_
  have hp : mp_144_25 L xs (d + 1) v1 v2 (0 : Int32) M1 o := by
    refine ms_144_L25 hd h hA (fun r3 M2 h => ?_)
    intro y4 y5 y6 y7 y8
    show mm_Runs L xs (d + 1) 144 (59, [y4, y5, y6, y7, y8], [], M2) o
    cases h
    exact mm_R_retv rfl rfl hA
  exact hp ((mm_no2 z3))
set_option maxRecDepth 8000 in
set_option maxHeartbeats 4000000 in
theorem ms_144 {L : Nat} {xs : Nat → Int32} {d : Nat} (hd : 8 ≤ d) {v1 : Int32} {v2 : Int64} {M : mm_M} {q : (Unit ⊕ Nat) × mm_M} {o : mm_E} (h : mf_144 v1 v2 M = some q) (hA : mm_A (mm_Kr mm_wv) q o) : mm_Runs L xs d 144 (0, mm_ent (mm_ml 144) [.ref 42, .int v1, .long v2], [], M) o := by
  unfold mf_144 at h
  obtain ⟨d, rfl⟩ := mm_d1 (n := 7) hd
  show mm_Runs L xs (d + 1) 144 (0, [some (.ref 42), some (.int v1), some (.long v2), none, none], [], M) o
  refine mm_Runs.seq (l := [(0, .aload_n 0, 1), (1, .getfield 124, 3), (4, .i2l, 1), (5, .lload_n 2, 1), (6, .ladd, 1), (7, .ldc2_w 149, 3)]) (S2 := (10, [some (.ref 42), some (.int v1), some (.long v2), none, none], [.long (16384 : Int64), .long ((M.1 42 12).toInt64 + v2)], M)) (by decide +kernel) (hO := mm_own_144) rfl ?_
  refine mm_R_lle (t := 18) rfl rfl rfl rfl (fun hc => ?_) (fun hc => ?_)
  · replace h := mm_ip hc h
    refine mm_Runs.seq (l := [(14, .iconst 1, 1), (15, .goto 4, 3)]) (S2 := (19, [some (.ref 42), some (.int v1), some (.long v2), none, none], [.int (1 : Int32)], M)) (by decide +kernel) (hO := mm_own_144) rfl ?_
    exact (ms_144_j19 hd h hA : mp_144_19 L xs (d + 1) v1 v2 (1 : Int32) M o) none none
  · replace h := mm_iq hc h
    refine mm_Runs.seq (l := [(18, .iconst 0, 1)]) (S2 := (19, [some (.ref 42), some (.int v1), some (.long v2), none, none], [.int (0 : Int32)], M)) (by decide +kernel) (hO := mm_own_144) rfl ?_
    exact (ms_144_j19 hd h hA : mp_144_19 L xs (d + 1) v1 v2 (0 : Int32) M o) none none
-- 143: PlainPacks$Sorted.readLetters()V (depth 9)
theorem mm_own_143 : mm_own 143 = 10 := rfl
def mp_143_20 (L : Nat) (xs : Nat → Int32) (d : Nat) (v1 : Int64) (v3 : Int32) (t4 : Nat) (v5 : Int32) (M : mm_M) (o : mm_E) : Prop := ∀ z2 z6 : Option Value, mm_Runs L xs d 143 (20, [some (.ref 42), some (.long v1), z2, some (.int v3), some (.ref (mm_tab t4)), some (.int v5), z6], [], M) o
def mp_143_148 (L : Nat) (xs : Nat → Int32) (d : Nat) (M : mm_M) (o : mm_E) : Prop := ∀ z0 z1 z2 z3 z4 z5 z6 : Option Value, mm_Runs L xs d 143 (148, [z0, z1, z2, z3, z4, z5, z6], [], M) o
def mp_143_177 (L : Nat) (xs : Nat → Int32) (d : Nat) (M : mm_M) (o : mm_E) : Prop := ∀ z0 z1 z2 z3 z4 z5 z6 : Option Value, mm_Runs L xs d 143 (177, [z0, z1, z2, z3, z4, z5, z6], [], M) o
def mp_143_64 (L : Nat) (xs : Nat → Int32) (d : Nat) (v1 : Int64) (v3 : Int32) (v5 : Int32) (v6 : Int32) (s0 : Int32) (M : mm_M) (o : mm_E) : Prop := ∀ z2 z4 : Option Value, mm_Runs L xs d 143 (64, [some (.ref 42), some (.long v1), z2, some (.int v3), z4, some (.int v5), some (.int v6)], [.int s0], M) o
def mp_143_81 (L : Nat) (xs : Nat → Int32) (d : Nat) (v1 : Int64) (v3 : Int32) (t4 : Nat) (v5 : Int32) (M : mm_M) (o : mm_E) : Prop := ∀ z2 z6 : Option Value, mm_Runs L xs d 143 (81, [some (.ref 42), some (.long v1), z2, some (.int v3), some (.ref (mm_tab t4)), some (.int v5), z6], [], M) o
set_option maxRecDepth 8000 in
set_option maxHeartbeats 4000000 in
theorem ms_143_j81 {L : Nat} {xs : Nat → Int32} {d : Nat} (hd : 9 ≤ d) {v1 : Int64} {v3 : Int32} {t4 : Nat} {v5 : Int32} {M : mm_M} {q : (((Int64 × Int32 × Nat × Int32) ⊕ ((Unit) ⊕ (Unit))) ⊕ Nat) × mm_M} {o : mm_E} (h : mf_143_j81 v1 v3 t4 v5 M = some q) (hA : mm_A (mm_K2 (fun s M o => mp_143_20 L xs (d) s.1 s.2.1 s.2.2.1 s.2.2.2 M o) (fun r M o => mm_sm (fun r => mp_143_148 L xs (d) M o) (fun r => mp_143_177 L xs (d) M o) r)) q o) : mp_143_81 L xs d v1 v3 t4 v5 M o := by
  unfold mf_143_j81 at h
  obtain ⟨d, rfl⟩ := mm_d1 (n := 8) hd
  intro z2 z6
  show mm_Runs L xs (d + 1) 143 (81, [some (.ref 42), some (.long v1), z2, some (.int v3), some (.ref (mm_tab t4)), some (.int v5), z6], [], M) o
  refine mm_Runs.seq (l := [(81, .aload 4, 2), (83, .aload_n 0, 1), (84, .getfield 36, 3)]) (S2 := (87, [some (.ref 42), some (.long v1), z2, some (.int v3), some (.ref (mm_tab t4)), some (.int v5), z6], [.ref 1, .ref (mm_tab t4)], M)) (by decide +kernel) (hO := mm_own_143) rfl ?_
  obtain ⟨hg, h⟩ := mm_gd h
  refine mm_R_call (v := mm_wi) h hA (k2 := 103) (as := [.ref (mm_tab t4), .ref 1]) (r := []) (mm_site_v (idx := 145) rfl rfl rfl rfl (mm_isC_cls (mm_isC_tab hg)) rfl rfl) (fun _ => rfl) (fun q hq o ho => ms_103 (mm_isC_tab hg) (by omega) hq ho) (fun r1 M2 h => ?_)
  show mm_Runs L xs (d + 1) 143 (90, [some (.ref 42), some (.long v1), z2, some (.int v3), some (.ref (mm_tab t4)), some (.int v5), z6], [.int r1], M2) o
  refine mm_Runs.seq (l := [(90, .istore 6, 2), (92, .iload 6, 2), (94, .iconst 2, 1)]) (S2 := (95, [some (.ref 42), some (.long v1), z2, some (.int v3), some (.ref (mm_tab t4)), some (.int v5), some (.int r1)], [.int (2 : Int32), .int r1], M2)) (by decide +kernel) (hO := mm_own_143) rfl ?_
  refine mm_R_ige (t := 122) rfl rfl rfl (fun hc => ?_) (fun hc => ?_)
  · replace h := mm_ip hc h
    refine mm_Runs.seq (l := [(98, .lload_n 1, 1), (99, .ldc2_w 149, 3)]) (S2 := (102, [some (.ref 42), some (.long v1), z2, some (.int v3), some (.ref (mm_tab t4)), some (.int v5), some (.int r1)], [.long (16384 : Int64), .long v1], M2)) (by decide +kernel) (hO := mm_own_143) rfl ?_
    refine mm_R_lgt (t := 171) rfl rfl rfl rfl (fun hc => ?_) (fun hc => ?_)
    · replace h := mm_ip hc h
      refine mm_Runs.seq (l := [(171, .iinc 5 1, 3), (174, .goto (-154), 3)]) (S2 := (20, [some (.ref 42), some (.long v1), z2, some (.int v3), some (.ref (mm_tab t4)), some (.int (v5 + (1 : Int32))), some (.int r1)], [], M2)) (by decide +kernel) (hO := mm_own_143) rfl ?_
      cases h
      exact (show mp_143_20 L xs (d + 1) v1 v3 t4 (v5 + (1 : Int32)) M2 o from hA) z2 (some (.int r1))
    · replace h := mm_iq hc h
      refine mm_Runs.seq (l := [(106, .lload_n 1, 1), (107, .iload 6, 2), (109, .iconst 1, 1), (110, .iadd, 1), (111, .i2l, 1), (112, .iload_n 3, 1), (113, .lshl, 1), (114, .ladd, 1), (115, .lstore_n 1, 1), (116, .iinc 3 1, 3), (119, .goto 52, 3), (171, .iinc 5 1, 3), (174, .goto (-154), 3)]) (S2 := (20, [some (.ref 42), some (.long (v1 + (mm_lshl (r1 + (1 : Int32)).toInt64 v3))), none, some (.int (v3 + (1 : Int32))), some (.ref (mm_tab t4)), some (.int (v5 + (1 : Int32))), some (.int r1)], [], M2)) (by decide +kernel) (hO := mm_own_143) rfl ?_
      cases h
      exact (show mp_143_20 L xs (d + 1) (v1 + (mm_lshl (r1 + (1 : Int32)).toInt64 v3)) (v3 + (1 : Int32)) t4 (v5 + (1 : Int32)) M2 o from hA) none (some (.int r1))
  · replace h := mm_iq hc h
    refine mm_Runs.seq (l := [(122, .aload_n 0, 1), (123, .aload_n 0, 1), (124, .getfield 24, 3), (127, .iconst 0, 1)]) (S2 := (128, [some (.ref 42), some (.long v1), z2, some (.int v3), some (.ref (mm_tab t4)), some (.int v5), some (.int r1)], [.int (0 : Int32), .ref 46, .ref 42], M2)) (by decide +kernel) (hO := mm_own_143) rfl ?_
    obtain ⟨hb, h⟩ := mm_gd h
    refine mm_R_iald rfl rfl hb ?_
    refine mm_Runs.seq (l := [(129, .lload_n 1, 1)]) (S2 := (130, [some (.ref 42), some (.long v1), z2, some (.int v3), some (.ref (mm_tab t4)), some (.int v5), some (.int r1)], [.long v1, .int (M2.1 46 (0 : Int32).toNatClampNeg), .ref 42], M2)) (by decide +kernel) (hO := mm_own_143) rfl ?_
    refine mm_R_call (v := mm_wv) h hA (k2 := 144) (as := [.ref 42, .int (M2.1 46 (0 : Int32).toNatClampNeg), .long v1]) (r := []) rfl (fun _ => rfl) (fun q hq o ho => ms_144 (by omega) hq ho) (fun _ M3 h => ?_)
    show mm_Runs L xs (d + 1) 143 (133, [some (.ref 42), some (.long v1), z2, some (.int v3), some (.ref (mm_tab t4)), some (.int v5), some (.int r1)], [], M3) o
    refine mm_Runs.seq (l := [(133, .lconst 0, 1), (134, .lstore_n 1, 1), (135, .iconst 0, 1), (136, .istore_n 3, 1), (137, .iload 6, 2), (139, .aload_n 0, 1), (140, .getfield 125, 3), (143, .iconst 1, 1), (144, .iadd, 1)]) (S2 := (145, [some (.ref 42), some (.long (0 : Int64)), none, some (.int (0 : Int32)), some (.ref (mm_tab t4)), some (.int v5), some (.int r1)], [.int ((M3.1 42 9) + (1 : Int32)), .int r1], M3)) (by decide +kernel) (hO := mm_own_143) rfl ?_
    refine mm_R_ine (t := 149) rfl rfl rfl (fun hc => ?_) (fun hc => ?_)
    · replace h := mm_ip hc h
      cases h
      exact (show mp_143_148 L xs (d + 1) M3 o from hA) (some (.ref 42)) (some (.long (0 : Int64))) none (some (.int (0 : Int32))) (some (.ref (mm_tab t4))) (some (.int v5)) (some (.int r1))
    · replace h := mm_iq hc h
      refine mm_Runs.seq (l := [(149, .aload_n 0, 1), (150, .getfield 24, 3), (153, .iload 6, 2), (155, .iconst 1, 1), (156, .isub, 1)]) (S2 := (157, [some (.ref 42), some (.long (0 : Int64)), none, some (.int (0 : Int32)), some (.ref (mm_tab t4)), some (.int v5), some (.int r1)], [.int (r1 - (1 : Int32)), .ref 46], M3)) (by decide +kernel) (hO := mm_own_143) rfl ?_
      refine mm_R_call (v := mm_wv) h hA (k2 := 141) (as := [.ref 46, .int (r1 - (1 : Int32))]) (r := []) rfl (fun _ => rfl) (fun q hq o ho => ms_141 rfl (by omega) hq ho) (fun _ M4 h => ?_)
      show mm_Runs L xs (d + 1) 143 (160, [some (.ref 42), some (.long (0 : Int64)), none, some (.int (0 : Int32)), some (.ref (mm_tab t4)), some (.int v5), some (.int r1)], [], M4) o
      refine mm_Runs.seq (l := [(160, .aload_n 0, 1), (161, .aload_n 0, 1), (162, .getfield 24, 3), (165, .iconst 0, 1)]) (S2 := (166, [some (.ref 42), some (.long (0 : Int64)), none, some (.int (0 : Int32)), some (.ref (mm_tab t4)), some (.int v5), some (.int r1)], [.int (0 : Int32), .ref 46, .ref 42], M4)) (by decide +kernel) (hO := mm_own_143) rfl ?_
      obtain ⟨hb, h⟩ := mm_gd h
      refine mm_R_iald rfl rfl hb ?_
      refine mm_Runs.seq (l := [(167, .lconst 1, 1)]) (S2 := (168, [some (.ref 42), some (.long (0 : Int64)), none, some (.int (0 : Int32)), some (.ref (mm_tab t4)), some (.int v5), some (.int r1)], [.long (1 : Int64), .int (M4.1 46 (0 : Int32).toNatClampNeg), .ref 42], M4)) (by decide +kernel) (hO := mm_own_143) rfl ?_
      refine mm_R_call (v := mm_wv) h hA (k2 := 144) (as := [.ref 42, .int (M4.1 46 (0 : Int32).toNatClampNeg), .long (1 : Int64)]) (r := []) rfl (fun _ => rfl) (fun q hq o ho => ms_144 (by omega) hq ho) (fun _ M5 h => ?_)
      show mm_Runs L xs (d + 1) 143 (171, [some (.ref 42), some (.long (0 : Int64)), none, some (.int (0 : Int32)), some (.ref (mm_tab t4)), some (.int v5), some (.int r1)], [], M5) o
      refine mm_Runs.seq (l := [(171, .iinc 5 1, 3), (174, .goto (-154), 3)]) (S2 := (20, [some (.ref 42), some (.long (0 : Int64)), none, some (.int (0 : Int32)), some (.ref (mm_tab t4)), some (.int (v5 + (1 : Int32))), some (.int r1)], [], M5)) (by decide +kernel) (hO := mm_own_143) rfl ?_
      cases h
      exact (show mp_143_20 L xs (d + 1) (0 : Int64) (0 : Int32) t4 (v5 + (1 : Int32)) M5 o from hA) none (some (.int r1))
set_option maxRecDepth 8000 in
set_option maxHeartbeats 4000000 in
theorem ms_143_j64 {L : Nat} {xs : Nat → Int32} {d : Nat} (hd : 9 ≤ d) {v1 : Int64} {v3 : Int32} {v5 : Int32} {v6 : Int32} {s0 : Int32} {M : mm_M} {q : (((Int64 × Int32 × Nat × Int32) ⊕ ((Unit) ⊕ (Unit))) ⊕ Nat) × mm_M} {o : mm_E} (h : mf_143_j64 v1 v3 v5 v6 s0 M = some q) (hA : mm_A (mm_K2 (fun s M o => mp_143_20 L xs (d) s.1 s.2.1 s.2.2.1 s.2.2.2 M o) (fun r M o => mm_sm (fun r => mp_143_148 L xs (d) M o) (fun r => mp_143_177 L xs (d) M o) r)) q o) : mp_143_64 L xs d v1 v3 v5 v6 s0 M o := by
  unfold mf_143_j64 at h
  obtain ⟨d, rfl⟩ := mm_d1 (n := 8) hd
  intro z2 z4
  show mm_Runs L xs (d + 1) 143 (64, [some (.ref 42), some (.long v1), z2, some (.int v3), z4, some (.int v5), some (.int v6)], [.int s0], M) o
  refine mm_R_call (v := mm_wv) h hA (k2 := 27) (as := [.int s0]) (r := []) rfl (fun _ => rfl) (fun q hq o ho => ms_27 (by omega) hq ho) (fun _ M1 h => ?_)
  show mm_Runs L xs (d + 1) 143 (67, [some (.ref 42), some (.long v1), z2, some (.int v3), z4, some (.int v5), some (.int v6)], [], M1) o
  refine mm_Runs.seq (l := [(67, .aload_n 0, 1), (68, .getfield 13, 3), (71, .aload_n 0, 1), (72, .getfield 21, 3), (75, .iload 6, 2)]) (S2 := (77, [some (.ref 42), some (.long v1), z2, some (.int v3), z4, some (.int v5), some (.int v6)], [.int v6, .ref 45, .ref 43], M1)) (by decide +kernel) (hO := mm_own_143) rfl ?_
  obtain ⟨hb, h⟩ := mm_gd h
  refine mm_R_iald rfl rfl hb ?_
  obtain ⟨hb, h⟩ := mm_gd h
  refine mm_R_aald rfl rfl hb ?_
  refine mm_Runs.seq (l := [(79, .astore 4, 2)]) (S2 := (81, [some (.ref 42), some (.long v1), z2, some (.int v3), some (.ref (mm_tab (M1.1 45 v6.toNatClampNeg).toNatClampNeg)), some (.int v5), some (.int v6)], [], M1)) (by decide +kernel) (hO := mm_own_143) rfl ?_
  exact (ms_143_j81 hd h hA : mp_143_81 L xs (d + 1) v1 v3 (M1.1 45 v6.toNatClampNeg).toNatClampNeg v5 M1 o) z2 (some (.int v6))
set_option maxRecDepth 8000 in
set_option maxHeartbeats 4000000 in
theorem ms_143_b20 {L : Nat} {xs : Nat → Int32} {d : Nat} (hd : 9 ≤ d) {v1 : Int64} {v3 : Int32} {t4 : Nat} {v5 : Int32} {M : mm_M} {q : (((Int64 × Int32 × Nat × Int32) ⊕ ((Unit) ⊕ (Unit))) ⊕ Nat) × mm_M} {o : mm_E} (h : mf_143_b20 v1 v3 t4 v5 M = some q) (hA : mm_A (mm_K2 (fun s M o => mp_143_20 L xs (d) s.1 s.2.1 s.2.2.1 s.2.2.2 M o) (fun r M o => mm_sm (fun r => mp_143_148 L xs (d) M o) (fun r => mp_143_177 L xs (d) M o) r)) q o) : mp_143_20 L xs d v1 v3 t4 v5 M o := by
  unfold mf_143_b20 at h
  obtain ⟨d, rfl⟩ := mm_d1 (n := 8) hd
  intro z2 z6
  show mm_Runs L xs (d + 1) 143 (20, [some (.ref 42), some (.long v1), z2, some (.int v3), some (.ref (mm_tab t4)), some (.int v5), z6], [], M) o
  refine mm_Runs.seq (l := [(20, .iload 5, 2), (22, .ldc 69, 2)]) (S2 := (24, [some (.ref 42), some (.long v1), z2, some (.int v3), some (.ref (mm_tab t4)), some (.int v5), z6], [.int (1000000 : Int32), .int v5], M)) (by decide +kernel) (hO := mm_own_143) rfl ?_
  refine mm_R_ige (t := 177) rfl rfl rfl (fun hc => ?_) (fun hc => ?_)
  · replace h := mm_ip hc h
    refine mm_Runs.seq (l := [(27, .iload 5, 2), (29, .bipush 50, 2), (31, .irem, 1)]) (S2 := (32, [some (.ref 42), some (.long v1), z2, some (.int v3), some (.ref (mm_tab t4)), some (.int v5), z6], [.int (mm_rem v5 (50 : Int32))], M)) (by decide +kernel) (hO := mm_own_143) rfl ?_
    refine mm_R_zne (t := 81) rfl rfl rfl (fun hc => ?_) (fun hc => ?_)
    · replace h := mm_ip hc h
      refine mm_Runs.seq (l := [(35, .iload 5, 2), (37, .bipush 50, 2), (39, .idiv, 1), (40, .istore 6, 2), (42, .iload 6, 2), (44, .aload_n 0, 1), (45, .getfield 128, 3)]) (S2 := (48, [some (.ref 42), some (.long v1), z2, some (.int v3), some (.ref (mm_tab t4)), some (.int v5), some (.int (v5 / (50 : Int32)))], [.int (M.1 42 7), .int (v5 / (50 : Int32))], M)) (by decide +kernel) (hO := mm_own_143) rfl ?_
      refine mm_R_ige (t := 59) rfl rfl rfl (fun hc => ?_) (fun hc => ?_)
      · replace h := mm_ip hc h
        refine mm_Runs.seq (l := [(51, .iload 6, 2), (53, .sipush 1601, 3)]) (S2 := (56, [some (.ref 42), some (.long v1), z2, some (.int v3), some (.ref (mm_tab t4)), some (.int v5), some (.int (v5 / (50 : Int32)))], [.int (1601 : Int32), .int (v5 / (50 : Int32))], M)) (by decide +kernel) (hO := mm_own_143) rfl ?_
        refine mm_R_ilt (t := 63) rfl rfl rfl (fun hc => ?_) (fun hc => ?_)
        · replace h := mm_ip hc h
          refine mm_Runs.seq (l := [(63, .iconst 0, 1)]) (S2 := (64, [some (.ref 42), some (.long v1), z2, some (.int v3), some (.ref (mm_tab t4)), some (.int v5), some (.int (v5 / (50 : Int32)))], [.int (0 : Int32)], M)) (by decide +kernel) (hO := mm_own_143) rfl ?_
          exact (ms_143_j64 hd h hA : mp_143_64 L xs (d + 1) v1 v3 v5 (v5 / (50 : Int32)) (0 : Int32) M o) z2 (some (.ref (mm_tab t4)))
        · replace h := mm_iq hc h
          refine mm_Runs.seq (l := [(59, .iconst 1, 1), (60, .goto 4, 3)]) (S2 := (64, [some (.ref 42), some (.long v1), z2, some (.int v3), some (.ref (mm_tab t4)), some (.int v5), some (.int (v5 / (50 : Int32)))], [.int (1 : Int32)], M)) (by decide +kernel) (hO := mm_own_143) rfl ?_
          exact (ms_143_j64 hd h hA : mp_143_64 L xs (d + 1) v1 v3 v5 (v5 / (50 : Int32)) (1 : Int32) M o) z2 (some (.ref (mm_tab t4)))
      · replace h := mm_iq hc h
        refine mm_Runs.seq (l := [(59, .iconst 1, 1), (60, .goto 4, 3)]) (S2 := (64, [some (.ref 42), some (.long v1), z2, some (.int v3), some (.ref (mm_tab t4)), some (.int v5), some (.int (v5 / (50 : Int32)))], [.int (1 : Int32)], M)) (by decide +kernel) (hO := mm_own_143) rfl ?_
        exact (ms_143_j64 hd h hA : mp_143_64 L xs (d + 1) v1 v3 v5 (v5 / (50 : Int32)) (1 : Int32) M o) z2 (some (.ref (mm_tab t4)))
    · replace h := mm_iq hc h
      exact (ms_143_j81 hd h hA : mp_143_81 L xs (d + 1) v1 v3 t4 v5 M o) z2 z6
  · replace h := mm_iq hc h
    cases h
    exact (show mp_143_177 L xs (d + 1) M o from hA) (some (.ref 42)) (some (.long v1)) z2 (some (.int v3)) (some (.ref (mm_tab t4))) (some (.int v5)) z6
theorem ms_143_L20 {L : Nat} {xs : Nat → Int32} {d : Nat} (hd : 9 ≤ d) {v1 : Int64} {v3 : Int32} {t4 : Nat} {v5 : Int32} {β : Type} {K : β → mm_M → mm_E → Prop} {F : ((Unit) ⊕ (Unit)) → mm_M → mm_O β} {M : mm_M} {q : (β ⊕ Nat) × mm_M} {o : mm_E} (h : mm_B (mf_143_L20 (v1, v3, t4, v5) M) F = some q) (hA : mm_A K q o) (hx : ∀ (r : ((Unit) ⊕ (Unit))) (M2 : mm_M), F r M2 = some q → (fun r M o => mm_sm (fun r => mp_143_148 L xs (d) M o) (fun r => mp_143_177 L xs (d) M o) r) r M2 o) : mp_143_20 L xs d v1 v3 t4 v5 M o := by
  unfold mf_143_L20 at h
  exact mm_R_loop (step := (fun s M => mf_143_b20 s.1 s.2.1 s.2.2.1 s.2.2.2 M)) (s := (v1, v3, t4, v5)) (M := M) (P := (fun s M o => mp_143_20 L xs (d) s.1 s.2.1 s.2.2.1 s.2.2.2 M o)) (X := (fun r M o => mm_sm (fun r => mp_143_148 L xs (d) M o) (fun r => mp_143_177 L xs (d) M o) r)) h hA (fun s M q hq hA => ms_143_b20 (v1 := s.1) (v3 := s.2.1) (t4 := s.2.2.1) (v5 := s.2.2.2) (M := M) (q := q) hd hq hA) hx
set_option maxRecDepth 8000 in
set_option maxHeartbeats 4000000 in
theorem ms_143 {L : Nat} {xs : Nat → Int32} {d : Nat} (hd : 9 ≤ d) {M : mm_M} {q : (Unit ⊕ Nat) × mm_M} {o : mm_E} (h : mf_143 M = some q) (hA : mm_A (mm_Kr mm_wv) q o) : mm_Runs L xs d 143 (0, mm_ent (mm_ml 143) [.ref 42], [], M) o := by
  unfold mf_143 at h
  obtain ⟨d, rfl⟩ := mm_d1 (n := 8) hd
  show mm_Runs L xs (d + 1) 143 (0, [some (.ref 42), none, none, none, none, none, none], [], M) o
  refine mm_Runs.seq (l := [(0, .aload_n 0, 1), (1, .iconst 0, 1), (2, .putfield 124, 3), (5, .lconst 0, 1), (6, .lstore_n 1, 1), (7, .iconst 0, 1), (8, .istore_n 3, 1), (9, .aload_n 0, 1), (10, .getfield 13, 3), (13, .iconst 0, 1)]) (S2 := (14, [some (.ref 42), some (.long (0 : Int64)), none, some (.int (0 : Int32)), none, none, none], [.int (0 : Int32), .ref 43], (mm_pi M 42 12 (0 : Int32)))) (by decide +kernel) (hO := mm_own_143) rfl ?_
  obtain ⟨hb, h⟩ := mm_gd h
  refine mm_R_aald rfl rfl hb ?_
  refine mm_Runs.seq (l := [(15, .astore 4, 2), (17, .iconst 0, 1), (18, .istore 5, 2)]) (S2 := (20, [some (.ref 42), some (.long (0 : Int64)), none, some (.int (0 : Int32)), some (.ref (mm_tab (0 : Int32).toNatClampNeg)), some (.int (0 : Int32)), none], [], (mm_pi M 42 12 (0 : Int32)))) (by decide +kernel) (hO := mm_own_143) rfl ?_
  have hp : mp_143_20 L xs (d + 1) (0 : Int64) (0 : Int32) (0 : Int32).toNatClampNeg (0 : Int32) (mm_pi M 42 12 (0 : Int32)) o := by
    refine ms_143_L20 hd h hA (fun r2 M1 h => ?_)
    rcases r2 with r2 | r2
    · dsimp only [mm_sm] at h
      intro y3 y4 y5 y6 y7 y8 y9
      show mm_Runs L xs (d + 1) 143 (148, [y3, y4, y5, y6, y7, y8, y9], [], M1) o
      cases h
      exact mm_R_retv rfl rfl hA
    · dsimp only [mm_sm] at h
      intro y10 y11 y12 y13 y14 y15 y16
      show mm_Runs L xs (d + 1) 143 (177, [y10, y11, y12, y13, y14, y15, y16], [], M1) o
      cases h
      exact mm_R_retv rfl rfl hA
  exact hp none none
-- 138: PlainPacks$Sorted.readBlock()V (depth 10)
theorem mm_own_138 : mm_own 138 = 10 := rfl
def mp_138_15 (L : Nat) (xs : Nat → Int32) (d : Nat) (s0 : Int32) (M : mm_M) (o : mm_E) : Prop := ∀ z1 z2 : Option Value, mm_Runs L xs d 138 (15, [some (.ref 42), z1, z2], [.int s0], M) o
def mp_138_62 (L : Nat) (xs : Nat → Int32) (d : Nat) (v1 : Int32) (s0 : Int32) (M : mm_M) (o : mm_E) : Prop := ∀ z2 : Option Value, mm_Runs L xs d 138 (62, [some (.ref 42), some (.int v1), z2], [.int s0], M) o
def mp_138_72 (L : Nat) (xs : Nat → Int32) (d : Nat) (v1 : Int32) (v2 : Int32) (M : mm_M) (o : mm_E) : Prop := mm_Runs L xs d 138 (72, [some (.ref 42), some (.int v1), some (.int v2)], [], M) o
def mp_138_93 (L : Nat) (xs : Nat → Int32) (d : Nat) (M : mm_M) (o : mm_E) : Prop := ∀ z1 z2 : Option Value, mm_Runs L xs d 138 (93, [some (.ref 42), z1, z2], [], M) o
set_option maxRecDepth 8000 in
set_option maxHeartbeats 4000000 in
theorem ms_138_b72 {L : Nat} {xs : Nat → Int32} {d : Nat} (hd : 10 ≤ d) {v1 : Int32} {v2 : Int32} {M : mm_M} {q : (((Int32) ⊕ (Unit)) ⊕ Nat) × mm_M} {o : mm_E} (h : mf_138_b72 v1 v2 M = some q) (hA : mm_A (mm_K2 (fun s M o => mp_138_72 L xs (d) v1 s M o) (fun r M o => mp_138_93 L xs (d) M o)) q o) : mp_138_72 L xs d v1 v2 M o := by
  unfold mf_138_b72 at h
  obtain ⟨d, rfl⟩ := mm_d1 (n := 9) hd
  show mm_Runs L xs (d + 1) 138 (72, [some (.ref 42), some (.int v1), some (.int v2)], [], M) o
  refine mm_Runs.seq (l := [(72, .iload_n 2, 1), (73, .iload_n 1, 1)]) (S2 := (74, [some (.ref 42), some (.int v1), some (.int v2)], [.int v1, .int v2], M)) (by decide +kernel) (hO := mm_own_138) rfl ?_
  refine mm_R_ige (t := 93) rfl rfl rfl (fun hc => ?_) (fun hc => ?_)
  · replace h := mm_ip hc h
    refine mm_Runs.seq (l := [(77, .aload_n 0, 1), (78, .aload_n 0, 1), (79, .getfield 13, 3), (82, .iload_n 2, 1)]) (S2 := (83, [some (.ref 42), some (.int v1), some (.int v2)], [.int v2, .ref 43, .ref 42], M)) (by decide +kernel) (hO := mm_own_138) rfl ?_
    obtain ⟨hb, h⟩ := mm_gd h
    refine mm_R_aald rfl rfl hb ?_
    obtain ⟨hg, h⟩ := mm_gd h
    refine mm_R_call (v := mm_wv) h hA (k2 := 142) (as := [.ref 42, .ref (mm_tab v2.toNatClampNeg)]) (r := []) rfl (fun _ => rfl) (fun q hq o ho => ms_142 (mm_isC_tab hg) (by omega) hq ho) (fun _ M1 h => ?_)
    show mm_Runs L xs (d + 1) 138 (87, [some (.ref 42), some (.int v1), some (.int v2)], [], M1) o
    refine mm_Runs.seq (l := [(87, .iinc 2 1, 3), (90, .goto (-18), 3)]) (S2 := (72, [some (.ref 42), some (.int v1), some (.int (v2 + (1 : Int32)))], [], M1)) (by decide +kernel) (hO := mm_own_138) rfl ?_
    cases h
    exact (show mp_138_72 L xs (d + 1) v1 (v2 + (1 : Int32)) M1 o from hA)
  · replace h := mm_iq hc h
    cases h
    exact (show mp_138_93 L xs (d + 1) M o from hA) (some (.int v1)) (some (.int v2))
theorem ms_138_L72 {L : Nat} {xs : Nat → Int32} {d : Nat} (hd : 10 ≤ d) {v1 : Int32} {v2 : Int32} {β : Type} {K : β → mm_M → mm_E → Prop} {F : (Unit) → mm_M → mm_O β} {M : mm_M} {q : (β ⊕ Nat) × mm_M} {o : mm_E} (h : mm_B (mf_138_L72 v1 v2 M) F = some q) (hA : mm_A K q o) (hx : ∀ (r : (Unit)) (M2 : mm_M), F r M2 = some q → (fun r M o => mp_138_93 L xs (d) M o) r M2 o) : mp_138_72 L xs d v1 v2 M o := by
  unfold mf_138_L72 at h
  exact mm_R_loop (step := (fun s M => mf_138_b72 v1 s M)) (s := v2) (M := M) (P := (fun s M o => mp_138_72 L xs (d) v1 s M o)) (X := (fun r M o => mp_138_93 L xs (d) M o)) h hA (fun s M q hq hA => ms_138_b72 (v1 := v1) (v2 := s) (M := M) (q := q) hd hq hA) hx
def mp_138_113 (L : Nat) (xs : Nat → Int32) (d : Nat) (s0 : Int32) (M : mm_M) (o : mm_E) : Prop := ∀ z0 z1 z2 : Option Value, mm_Runs L xs d 138 (113, [z0, z1, z2], [.int s0], M) o
set_option maxRecDepth 8000 in
set_option maxHeartbeats 4000000 in
theorem ms_138_j113 {L : Nat} {xs : Nat → Int32} {d : Nat} (hd : 10 ≤ d) {s0 : Int32} {M : mm_M} {q : (Unit ⊕ Nat) × mm_M} {o : mm_E} (h : mf_138_j113 s0 M = some q) (hA : mm_A (mm_Kr mm_wv) q o) : mp_138_113 L xs d s0 M o := by
  unfold mf_138_j113 at h
  obtain ⟨d, rfl⟩ := mm_d1 (n := 9) hd
  intro z0 z1 z2
  show mm_Runs L xs (d + 1) 138 (113, [z0, z1, z2], [.int s0], M) o
  refine mm_R_call (v := mm_wv) h hA (k2 := 27) (as := [.int s0]) (r := []) rfl (fun _ => rfl) (fun q hq o ho => ms_27 (by omega) hq ho) (fun _ M1 h => ?_)
  show mm_Runs L xs (d + 1) 138 (116, [z0, z1, z2], [], M1) o
  cases h
  exact mm_R_retv rfl rfl hA
set_option maxRecDepth 8000 in
set_option maxHeartbeats 4000000 in
theorem ms_138_j93 {L : Nat} {xs : Nat → Int32} {d : Nat} (hd : 10 ≤ d) {M : mm_M} {q : (Unit ⊕ Nat) × mm_M} {o : mm_E} (h : mf_138_j93 M = some q) (hA : mm_A (mm_Kr mm_wv) q o) : mp_138_93 L xs d M o := by
  unfold mf_138_j93 at h
  obtain ⟨d, rfl⟩ := mm_d1 (n := 9) hd
  intro z1 z2
  show mm_Runs L xs (d + 1) 138 (93, [some (.ref 42), z1, z2], [], M) o
  refine mm_Runs.seq (l := [(93, .aload_n 0, 1)]) (S2 := (94, [some (.ref 42), z1, z2], [.ref 42], M)) (by decide +kernel) (hO := mm_own_138) rfl ?_
  refine mm_R_call (v := mm_wv) h hA (k2 := 143) (as := [.ref 42]) (r := []) rfl (fun _ => rfl) (fun q hq o ho => ms_143 (by omega) hq ho) (fun _ M1 h => ?_)
  show mm_Runs L xs (d + 1) 138 (97, [some (.ref 42), z1, z2], [], M1) o
  refine mm_Runs.seq (l := [(97, .aload_n 0, 1), (98, .getfield 108, 3), (101, .aload_n 0, 1), (102, .getfield 124, 3)]) (S2 := (105, [some (.ref 42), z1, z2], [.int (M1.1 42 12), .int (M1.1 42 10)], M1)) (by decide +kernel) (hO := mm_own_138) rfl ?_
  refine mm_R_ilt (t := 112) rfl rfl rfl (fun hc => ?_) (fun hc => ?_)
  · replace h := mm_ip hc h
    refine mm_Runs.seq (l := [(112, .iconst 0, 1)]) (S2 := (113, [some (.ref 42), z1, z2], [.int (0 : Int32)], M1)) (by decide +kernel) (hO := mm_own_138) rfl ?_
    exact (ms_138_j113 hd h hA : mp_138_113 L xs (d + 1) (0 : Int32) M1 o) (some (.ref 42)) z1 z2
  · replace h := mm_iq hc h
    refine mm_Runs.seq (l := [(108, .iconst 1, 1), (109, .goto 4, 3)]) (S2 := (113, [some (.ref 42), z1, z2], [.int (1 : Int32)], M1)) (by decide +kernel) (hO := mm_own_138) rfl ?_
    exact (ms_138_j113 hd h hA : mp_138_113 L xs (d + 1) (1 : Int32) M1 o) (some (.ref 42)) z1 z2
set_option maxRecDepth 8000 in
set_option maxHeartbeats 4000000 in
theorem ms_138_j62 {L : Nat} {xs : Nat → Int32} {d : Nat} (hd : 10 ≤ d) {v1 : Int32} {s0 : Int32} {M : mm_M} {q : (Unit ⊕ Nat) × mm_M} {o : mm_E} (h : mf_138_j62 v1 s0 M = some q) (hA : mm_A (mm_Kr mm_wv) q o) : mp_138_62 L xs d v1 s0 M o := by
  unfold mf_138_j62 at h
  obtain ⟨d, rfl⟩ := mm_d1 (n := 9) hd
  intro z2
  show mm_Runs L xs (d + 1) 138 (62, [some (.ref 42), some (.int v1), z2], [.int s0], M) o
  refine mm_R_call (v := mm_wv) h hA (k2 := 27) (as := [.int s0]) (r := []) rfl (fun _ => rfl) (fun q hq o ho => ms_27 (by omega) hq ho) (fun _ M1 h => ?_)
  show mm_Runs L xs (d + 1) 138 (65, [some (.ref 42), some (.int v1), z2], [], M1) o
  refine mm_Runs.seq (l := [(65, .aload_n 0, 1), (66, .iload_n 1, 1)]) (S2 := (67, [some (.ref 42), some (.int v1), z2], [.int v1, .ref 42], M1)) (by decide +kernel) (hO := mm_own_138) rfl ?_
  refine mm_R_call (v := mm_wv) h hA (k2 := 140) (as := [.ref 42, .int v1]) (r := []) rfl (fun _ => rfl) (fun q hq o ho => ms_140 (by omega) hq ho) (fun _ M2 h => ?_)
  show mm_Runs L xs (d + 1) 138 (70, [some (.ref 42), some (.int v1), z2], [], M2) o
  refine mm_Runs.seq (l := [(70, .iconst 0, 1), (71, .istore_n 2, 1)]) (S2 := (72, [some (.ref 42), some (.int v1), some (.int (0 : Int32))], [], M2)) (by decide +kernel) (hO := mm_own_138) rfl ?_
  have hp : mp_138_72 L xs (d + 1) v1 (0 : Int32) M2 o := by
    refine ms_138_L72 hd h hA (fun r4 M3 h => ?_)
    intro y5 y6
    show mm_Runs L xs (d + 1) 138 (93, [some (.ref 42), y5, y6], [], M3) o
    exact (ms_138_j93 hd h hA : mp_138_93 L xs (d + 1) M3 o) y5 y6
  exact hp
set_option maxRecDepth 8000 in
set_option maxHeartbeats 4000000 in
theorem ms_138_j15 {L : Nat} {xs : Nat → Int32} {d : Nat} (hd : 10 ≤ d) {s0 : Int32} {M : mm_M} {q : (Unit ⊕ Nat) × mm_M} {o : mm_E} (h : mf_138_j15 s0 M = some q) (hA : mm_A (mm_Kr mm_wv) q o) : mp_138_15 L xs d s0 M o := by
  unfold mf_138_j15 at h
  obtain ⟨d, rfl⟩ := mm_d1 (n := 9) hd
  intro z1 z2
  show mm_Runs L xs (d + 1) 138 (15, [some (.ref 42), z1, z2], [.int s0], M) o
  refine mm_R_call (v := mm_wv) h hA (k2 := 27) (as := [.int s0]) (r := []) rfl (fun _ => rfl) (fun q hq o ho => ms_27 (by omega) hq ho) (fun _ M1 h => ?_)
  show mm_Runs L xs (d + 1) 138 (18, [some (.ref 42), z1, z2], [], M1) o
  refine mm_Runs.seq (l := [(18, .aload_n 0, 1), (19, .aload_n 0, 1), (20, .getfield 36, 3), (23, .bipush 24, 2)]) (S2 := (25, [some (.ref 42), z1, z2], [.int (24 : Int32), .ref 1, .ref 42], M1)) (by decide +kernel) (hO := mm_own_138) rfl ?_
  refine mm_R_call (v := mm_wl) h hA (k2 := 46) (as := [.ref 1, .int (24 : Int32)]) (r := [.ref 42]) rfl (fun _ => rfl) (fun q hq o ho => ms_46 (by omega) hq ho) (fun r2 M3 h => ?_)
  show mm_Runs L xs (d + 1) 138 (28, [some (.ref 42), z1, z2], [.long r2, .ref 42], M3) o
  refine mm_Runs.seq (l := [(28, .l2i, 1), (29, .putfield 108, 3), (32, .aload_n 0, 1)]) (S2 := (33, [some (.ref 42), z1, z2], [.ref 42], (mm_pi M3 42 10 r2.toInt32))) (by decide +kernel) (hO := mm_own_138) rfl ?_
  refine mm_R_call (v := mm_wv) h hA (k2 := 139) (as := [.ref 42]) (r := []) rfl (fun _ => rfl) (fun q hq o ho => ms_139 (by omega) hq ho) (fun _ M4 h => ?_)
  show mm_Runs L xs (d + 1) 138 (36, [some (.ref 42), z1, z2], [], M4) o
  refine mm_Runs.seq (l := [(36, .aload_n 0, 1), (37, .getfield 36, 3), (40, .iconst 3, 1)]) (S2 := (41, [some (.ref 42), z1, z2], [.int (3 : Int32), .ref 1], M4)) (by decide +kernel) (hO := mm_own_138) rfl ?_
  refine mm_R_call (v := mm_wl) h hA (k2 := 46) (as := [.ref 1, .int (3 : Int32)]) (r := []) rfl (fun _ => rfl) (fun q hq o ho => ms_46 (by omega) hq ho) (fun r5 M6 h => ?_)
  show mm_Runs L xs (d + 1) 138 (44, [some (.ref 42), z1, z2], [.long r5], M6) o
  refine mm_Runs.seq (l := [(44, .l2i, 1), (45, .istore_n 1, 1), (46, .iload_n 1, 1), (47, .iconst 2, 1)]) (S2 := (48, [some (.ref 42), some (.int r5.toInt32), z2], [.int (2 : Int32), .int r5.toInt32], M6)) (by decide +kernel) (hO := mm_own_138) rfl ?_
  refine mm_R_ilt (t := 57) rfl rfl rfl (fun hc => ?_) (fun hc => ?_)
  · replace h := mm_ip hc h
    refine mm_Runs.seq (l := [(57, .iconst 1, 1), (58, .goto 4, 3)]) (S2 := (62, [some (.ref 42), some (.int r5.toInt32), z2], [.int (1 : Int32)], M6)) (by decide +kernel) (hO := mm_own_138) rfl ?_
    exact (ms_138_j62 hd h hA : mp_138_62 L xs (d + 1) r5.toInt32 (1 : Int32) M6 o) z2
  · replace h := mm_iq hc h
    refine mm_Runs.seq (l := [(51, .iload_n 1, 1), (52, .bipush 6, 2)]) (S2 := (54, [some (.ref 42), some (.int r5.toInt32), z2], [.int (6 : Int32), .int r5.toInt32], M6)) (by decide +kernel) (hO := mm_own_138) rfl ?_
    refine mm_R_ile (t := 61) rfl rfl rfl (fun hc => ?_) (fun hc => ?_)
    · replace h := mm_ip hc h
      refine mm_Runs.seq (l := [(57, .iconst 1, 1), (58, .goto 4, 3)]) (S2 := (62, [some (.ref 42), some (.int r5.toInt32), z2], [.int (1 : Int32)], M6)) (by decide +kernel) (hO := mm_own_138) rfl ?_
      exact (ms_138_j62 hd h hA : mp_138_62 L xs (d + 1) r5.toInt32 (1 : Int32) M6 o) z2
    · replace h := mm_iq hc h
      refine mm_Runs.seq (l := [(61, .iconst 0, 1)]) (S2 := (62, [some (.ref 42), some (.int r5.toInt32), z2], [.int (0 : Int32)], M6)) (by decide +kernel) (hO := mm_own_138) rfl ?_
      exact (ms_138_j62 hd h hA : mp_138_62 L xs (d + 1) r5.toInt32 (0 : Int32) M6 o) z2
set_option maxRecDepth 8000 in
set_option maxHeartbeats 4000000 in
theorem ms_138 {L : Nat} {xs : Nat → Int32} {d : Nat} (hd : 10 ≤ d) {M : mm_M} {q : (Unit ⊕ Nat) × mm_M} {o : mm_E} (h : mf_138 M = some q) (hA : mm_A (mm_Kr mm_wv) q o) : mm_Runs L xs d 138 (0, mm_ent (mm_ml 138) [.ref 42], [], M) o := by
  unfold mf_138 at h
  obtain ⟨d, rfl⟩ := mm_d1 (n := 9) hd
  show mm_Runs L xs (d + 1) 138 (0, [some (.ref 42), none, none], [], M) o
  refine mm_Runs.seq (l := [(0, .aload_n 0, 1), (1, .getfield 36, 3)]) (S2 := (4, [some (.ref 42), none, none], [.ref 1], M)) (by decide +kernel) (hO := mm_own_138) rfl ?_
  refine mm_R_call (v := mm_wi) h hA (k2 := 45) (as := [.ref 1]) (r := []) rfl (fun _ => rfl) (fun q hq o ho => ms_45 (by omega) hq ho) (fun r1 M2 h => ?_)
  show mm_Runs L xs (d + 1) 138 (7, [some (.ref 42), none, none], [.int r1], M2) o
  refine mm_R_zeq (t := 14) rfl rfl rfl (fun hc => ?_) (fun hc => ?_)
  · replace h := mm_ip hc h
    refine mm_Runs.seq (l := [(14, .iconst 0, 1)]) (S2 := (15, [some (.ref 42), none, none], [.int (0 : Int32)], M2)) (by decide +kernel) (hO := mm_own_138) rfl ?_
    exact (ms_138_j15 hd h hA : mp_138_15 L xs (d + 1) (0 : Int32) M2 o) none none
  · replace h := mm_iq hc h
    refine mm_Runs.seq (l := [(10, .iconst 1, 1), (11, .goto 4, 3)]) (S2 := (15, [some (.ref 42), none, none], [.int (1 : Int32)], M2)) (by decide +kernel) (hO := mm_own_138) rfl ?_
    exact (ms_138_j15 hd h hA : mp_138_15 L xs (d + 1) (1 : Int32) M2 o) none none
-- 145: PlainPacks$Sorted.sortSteps()V (depth 1)
theorem mm_own_145 : mm_own 145 = 10 := rfl
def mp_145_10 (L : Nat) (xs : Nat → Int32) (d : Nat) (v1 : Int32) (M : mm_M) (o : mm_E) : Prop := ∀ z2 : Option Value, mm_Runs L xs d 145 (10, [some (.ref 42), some (.int v1), z2], [], M) o
def mp_145_41 (L : Nat) (xs : Nat → Int32) (d : Nat) (M : mm_M) (o : mm_E) : Prop := ∀ z1 z2 : Option Value, mm_Runs L xs d 145 (41, [some (.ref 42), z1, z2], [], M) o
set_option maxRecDepth 8000 in
set_option maxHeartbeats 4000000 in
theorem ms_145_b10 {L : Nat} {xs : Nat → Int32} {d : Nat} (hd : 1 ≤ d) {v1 : Int32} {M : mm_M} {q : (((Int32) ⊕ (Unit)) ⊕ Nat) × mm_M} {o : mm_E} (h : mf_145_b10 v1 M = some q) (hA : mm_A (mm_K2 (fun s M o => mp_145_10 L xs (d) s M o) (fun r M o => mp_145_41 L xs (d) M o)) q o) : mp_145_10 L xs d v1 M o := by
  unfold mf_145_b10 at h
  obtain ⟨d, rfl⟩ := mm_d1 (n := 0) hd
  intro z2
  show mm_Runs L xs (d + 1) 145 (10, [some (.ref 42), some (.int v1), z2], [], M) o
  refine mm_Runs.seq (l := [(10, .iload_n 1, 1), (11, .aload_n 0, 1), (12, .getfield 124, 3)]) (S2 := (15, [some (.ref 42), some (.int v1), z2], [.int (M.1 42 12), .int v1], M)) (by decide +kernel) (hO := mm_own_145) rfl ?_
  refine mm_R_ige (t := 41) rfl rfl rfl (fun hc => ?_) (fun hc => ?_)
  · replace h := mm_ip hc h
    refine mm_Runs.seq (l := [(18, .aload_n 0, 1), (19, .getfield 33, 3), (22, .aload_n 0, 1), (23, .getfield 27, 3), (26, .iload_n 1, 1)]) (S2 := (27, [some (.ref 42), some (.int v1), z2], [.int v1, .ref 47, .ref 49], M)) (by decide +kernel) (hO := mm_own_145) rfl ?_
    obtain ⟨hb, h⟩ := mm_gd h
    refine mm_R_iald rfl rfl hb ?_
    refine mm_Runs.seq (l := [(28, .iconst 1, 1), (29, .iadd, 1), (30, .dup2, 1)]) (S2 := (31, [some (.ref 42), some (.int v1), z2], [.int ((M.1 47 v1.toNatClampNeg) + (1 : Int32)), .ref 49, .int ((M.1 47 v1.toNatClampNeg) + (1 : Int32)), .ref 49], M)) (by decide +kernel) (hO := mm_own_145) rfl ?_
    obtain ⟨hb, h⟩ := mm_gd h
    refine mm_R_iald rfl rfl hb ?_
    refine mm_Runs.seq (l := [(32, .iconst 1, 1), (33, .iadd, 1)]) (S2 := (34, [some (.ref 42), some (.int v1), z2], [.int ((M.1 49 ((M.1 47 v1.toNatClampNeg) + (1 : Int32)).toNatClampNeg) + (1 : Int32)), .int ((M.1 47 v1.toNatClampNeg) + (1 : Int32)), .ref 49], M)) (by decide +kernel) (hO := mm_own_145) rfl ?_
    obtain ⟨hb, h⟩ := mm_gd h
    refine mm_R_iast rfl rfl hb ?_
    refine mm_Runs.seq (l := [(35, .iinc 1 1, 3), (38, .goto (-28), 3)]) (S2 := (10, [some (.ref 42), some (.int (v1 + (1 : Int32))), z2], [], (mm_pi M 49 ((M.1 47 v1.toNatClampNeg) + (1 : Int32)).toNatClampNeg ((M.1 49 ((M.1 47 v1.toNatClampNeg) + (1 : Int32)).toNatClampNeg) + (1 : Int32))))) (by decide +kernel) (hO := mm_own_145) rfl ?_
    cases h
    exact (show mp_145_10 L xs (d + 1) (v1 + (1 : Int32)) (mm_pi M 49 ((M.1 47 v1.toNatClampNeg) + (1 : Int32)).toNatClampNeg ((M.1 49 ((M.1 47 v1.toNatClampNeg) + (1 : Int32)).toNatClampNeg) + (1 : Int32))) o from hA) z2
  · replace h := mm_iq hc h
    cases h
    exact (show mp_145_41 L xs (d + 1) M o from hA) (some (.int v1)) z2
theorem ms_145_L10 {L : Nat} {xs : Nat → Int32} {d : Nat} (hd : 1 ≤ d) {v1 : Int32} {β : Type} {K : β → mm_M → mm_E → Prop} {F : (Unit) → mm_M → mm_O β} {M : mm_M} {q : (β ⊕ Nat) × mm_M} {o : mm_E} (h : mm_B (mf_145_L10 v1 M) F = some q) (hA : mm_A K q o) (hx : ∀ (r : (Unit)) (M2 : mm_M), F r M2 = some q → (fun r M o => mp_145_41 L xs (d) M o) r M2 o) : mp_145_10 L xs d v1 M o := by
  unfold mf_145_L10 at h
  exact mm_R_loop (step := (fun s M => mf_145_b10 s M)) (s := v1) (M := M) (P := (fun s M o => mp_145_10 L xs (d) s M o)) (X := (fun r M o => mp_145_41 L xs (d) M o)) h hA (fun s M q hq hA => ms_145_b10 (v1 := s) (M := M) (q := q) hd hq hA) hx
def mp_145_43 (L : Nat) (xs : Nat → Int32) (d : Nat) (v1 : Int32) (M : mm_M) (o : mm_E) : Prop := ∀ z2 : Option Value, mm_Runs L xs d 145 (43, [some (.ref 42), some (.int v1), z2], [], M) o
def mp_145_75 (L : Nat) (xs : Nat → Int32) (d : Nat) (M : mm_M) (o : mm_E) : Prop := ∀ z1 z2 : Option Value, mm_Runs L xs d 145 (75, [some (.ref 42), z1, z2], [], M) o
set_option maxRecDepth 8000 in
set_option maxHeartbeats 4000000 in
theorem ms_145_b43 {L : Nat} {xs : Nat → Int32} {d : Nat} (hd : 1 ≤ d) {v1 : Int32} {M : mm_M} {q : (((Int32) ⊕ (Unit)) ⊕ Nat) × mm_M} {o : mm_E} (h : mf_145_b43 v1 M = some q) (hA : mm_A (mm_K2 (fun s M o => mp_145_43 L xs (d) s M o) (fun r M o => mp_145_75 L xs (d) M o)) q o) : mp_145_43 L xs d v1 M o := by
  unfold mf_145_b43 at h
  obtain ⟨d, rfl⟩ := mm_d1 (n := 0) hd
  intro z2
  show mm_Runs L xs (d + 1) 145 (43, [some (.ref 42), some (.int v1), z2], [], M) o
  refine mm_Runs.seq (l := [(43, .iload_n 1, 1), (44, .aload_n 0, 1), (45, .getfield 33, 3), (48, .arraylength, 1)]) (S2 := (49, [some (.ref 42), some (.int v1), z2], [.int (257 : Int32), .int v1], M)) (by decide +kernel) (hO := mm_own_145) rfl ?_
  refine mm_R_ige (t := 75) rfl rfl rfl (fun hc => ?_) (fun hc => ?_)
  · replace h := mm_ip hc h
    refine mm_Runs.seq (l := [(52, .aload_n 0, 1), (53, .getfield 33, 3), (56, .iload_n 1, 1), (57, .dup2, 1)]) (S2 := (58, [some (.ref 42), some (.int v1), z2], [.int v1, .ref 49, .int v1, .ref 49], M)) (by decide +kernel) (hO := mm_own_145) rfl ?_
    obtain ⟨hb, h⟩ := mm_gd h
    refine mm_R_iald rfl rfl hb ?_
    refine mm_Runs.seq (l := [(59, .aload_n 0, 1), (60, .getfield 33, 3), (63, .iload_n 1, 1), (64, .iconst 1, 1), (65, .isub, 1)]) (S2 := (66, [some (.ref 42), some (.int v1), z2], [.int (v1 - (1 : Int32)), .ref 49, .int (M.1 49 v1.toNatClampNeg), .int v1, .ref 49], M)) (by decide +kernel) (hO := mm_own_145) rfl ?_
    obtain ⟨hb, h⟩ := mm_gd h
    refine mm_R_iald rfl rfl hb ?_
    refine mm_Runs.seq (l := [(67, .iadd, 1)]) (S2 := (68, [some (.ref 42), some (.int v1), z2], [.int ((M.1 49 v1.toNatClampNeg) + (M.1 49 (v1 - (1 : Int32)).toNatClampNeg)), .int v1, .ref 49], M)) (by decide +kernel) (hO := mm_own_145) rfl ?_
    obtain ⟨hb, h⟩ := mm_gd h
    refine mm_R_iast rfl rfl hb ?_
    refine mm_Runs.seq (l := [(69, .iinc 1 1, 3), (72, .goto (-29), 3)]) (S2 := (43, [some (.ref 42), some (.int (v1 + (1 : Int32))), z2], [], (mm_pi M 49 v1.toNatClampNeg ((M.1 49 v1.toNatClampNeg) + (M.1 49 (v1 - (1 : Int32)).toNatClampNeg))))) (by decide +kernel) (hO := mm_own_145) rfl ?_
    cases h
    exact (show mp_145_43 L xs (d + 1) (v1 + (1 : Int32)) (mm_pi M 49 v1.toNatClampNeg ((M.1 49 v1.toNatClampNeg) + (M.1 49 (v1 - (1 : Int32)).toNatClampNeg))) o from hA) z2
  · replace h := mm_iq hc h
    cases h
    exact (show mp_145_75 L xs (d + 1) M o from hA) (some (.int v1)) z2
theorem ms_145_L43 {L : Nat} {xs : Nat → Int32} {d : Nat} (hd : 1 ≤ d) {v1 : Int32} {β : Type} {K : β → mm_M → mm_E → Prop} {F : (Unit) → mm_M → mm_O β} {M : mm_M} {q : (β ⊕ Nat) × mm_M} {o : mm_E} (h : mm_B (mf_145_L43 v1 M) F = some q) (hA : mm_A K q o) (hx : ∀ (r : (Unit)) (M2 : mm_M), F r M2 = some q → (fun r M o => mp_145_75 L xs (d) M o) r M2 o) : mp_145_43 L xs d v1 M o := by
  unfold mf_145_L43 at h
  exact mm_R_loop (step := (fun s M => mf_145_b43 s M)) (s := v1) (M := M) (P := (fun s M o => mp_145_43 L xs (d) s M o)) (X := (fun r M o => mp_145_75 L xs (d) M o)) h hA (fun s M q hq hA => ms_145_b43 (v1 := s) (M := M) (q := q) hd hq hA) hx
def mp_145_77 (L : Nat) (xs : Nat → Int32) (d : Nat) (v1 : Int32) (M : mm_M) (o : mm_E) : Prop := ∀ z2 : Option Value, mm_Runs L xs d 145 (77, [some (.ref 42), some (.int v1), z2], [], M) o
def mp_145_120 (L : Nat) (xs : Nat → Int32) (d : Nat) (M : mm_M) (o : mm_E) : Prop := ∀ z0 z1 z2 : Option Value, mm_Runs L xs d 145 (120, [z0, z1, z2], [], M) o
set_option maxRecDepth 8000 in
set_option maxHeartbeats 4000000 in
theorem ms_145_b77 {L : Nat} {xs : Nat → Int32} {d : Nat} (hd : 1 ≤ d) {v1 : Int32} {M : mm_M} {q : (((Int32) ⊕ (Unit)) ⊕ Nat) × mm_M} {o : mm_E} (h : mf_145_b77 v1 M = some q) (hA : mm_A (mm_K2 (fun s M o => mp_145_77 L xs (d) s M o) (fun r M o => mp_145_120 L xs (d) M o)) q o) : mp_145_77 L xs d v1 M o := by
  unfold mf_145_b77 at h
  obtain ⟨d, rfl⟩ := mm_d1 (n := 0) hd
  intro z2
  show mm_Runs L xs (d + 1) 145 (77, [some (.ref 42), some (.int v1), z2], [], M) o
  refine mm_Runs.seq (l := [(77, .iload_n 1, 1), (78, .aload_n 0, 1), (79, .getfield 124, 3)]) (S2 := (82, [some (.ref 42), some (.int v1), z2], [.int (M.1 42 12), .int v1], M)) (by decide +kernel) (hO := mm_own_145) rfl ?_
  refine mm_R_ige (t := 120) rfl rfl rfl (fun hc => ?_) (fun hc => ?_)
  · replace h := mm_ip hc h
    refine mm_Runs.seq (l := [(85, .aload_n 0, 1), (86, .getfield 27, 3), (89, .iload_n 1, 1)]) (S2 := (90, [some (.ref 42), some (.int v1), z2], [.int v1, .ref 47], M)) (by decide +kernel) (hO := mm_own_145) rfl ?_
    obtain ⟨hb, h⟩ := mm_gd h
    refine mm_R_iald rfl rfl hb ?_
    refine mm_Runs.seq (l := [(91, .istore_n 2, 1), (92, .aload_n 0, 1), (93, .getfield 30, 3), (96, .aload_n 0, 1), (97, .getfield 33, 3), (100, .iload_n 2, 1)]) (S2 := (101, [some (.ref 42), some (.int v1), some (.int (M.1 47 v1.toNatClampNeg))], [.int (M.1 47 v1.toNatClampNeg), .ref 49, .ref 48], M)) (by decide +kernel) (hO := mm_own_145) rfl ?_
    obtain ⟨hb, h⟩ := mm_gd h
    refine mm_R_iald rfl rfl hb ?_
    refine mm_Runs.seq (l := [(102, .iload_n 1, 1)]) (S2 := (103, [some (.ref 42), some (.int v1), some (.int (M.1 47 v1.toNatClampNeg))], [.int v1, .int (M.1 49 (M.1 47 v1.toNatClampNeg).toNatClampNeg), .ref 48], M)) (by decide +kernel) (hO := mm_own_145) rfl ?_
    obtain ⟨hb, h⟩ := mm_gd h
    refine mm_R_iast rfl rfl hb ?_
    refine mm_Runs.seq (l := [(104, .aload_n 0, 1), (105, .getfield 33, 3), (108, .iload_n 2, 1), (109, .dup2, 1)]) (S2 := (110, [some (.ref 42), some (.int v1), some (.int (M.1 47 v1.toNatClampNeg))], [.int (M.1 47 v1.toNatClampNeg), .ref 49, .int (M.1 47 v1.toNatClampNeg), .ref 49], (mm_pi M 48 (M.1 49 (M.1 47 v1.toNatClampNeg).toNatClampNeg).toNatClampNeg v1))) (by decide +kernel) (hO := mm_own_145) rfl ?_
    obtain ⟨hb, h⟩ := mm_gd h
    refine mm_R_iald rfl rfl hb ?_
    refine mm_Runs.seq (l := [(111, .iconst 1, 1), (112, .iadd, 1)]) (S2 := (113, [some (.ref 42), some (.int v1), some (.int (M.1 47 v1.toNatClampNeg))], [.int ((M.1 49 (M.1 47 v1.toNatClampNeg).toNatClampNeg) + (1 : Int32)), .int (M.1 47 v1.toNatClampNeg), .ref 49], (mm_pi M 48 (M.1 49 (M.1 47 v1.toNatClampNeg).toNatClampNeg).toNatClampNeg v1))) (by decide +kernel) (hO := mm_own_145) rfl ?_
    obtain ⟨hb, h⟩ := mm_gd h
    refine mm_R_iast rfl rfl hb ?_
    refine mm_Runs.seq (l := [(114, .iinc 1 1, 3), (117, .goto (-40), 3)]) (S2 := (77, [some (.ref 42), some (.int (v1 + (1 : Int32))), some (.int (M.1 47 v1.toNatClampNeg))], [], (mm_pi (mm_pi M 48 (M.1 49 (M.1 47 v1.toNatClampNeg).toNatClampNeg).toNatClampNeg v1) 49 (M.1 47 v1.toNatClampNeg).toNatClampNeg ((M.1 49 (M.1 47 v1.toNatClampNeg).toNatClampNeg) + (1 : Int32))))) (by decide +kernel) (hO := mm_own_145) rfl ?_
    cases h
    exact (show mp_145_77 L xs (d + 1) (v1 + (1 : Int32)) (mm_pi (mm_pi M 48 (M.1 49 (M.1 47 v1.toNatClampNeg).toNatClampNeg).toNatClampNeg v1) 49 (M.1 47 v1.toNatClampNeg).toNatClampNeg ((M.1 49 (M.1 47 v1.toNatClampNeg).toNatClampNeg) + (1 : Int32))) o from hA) (some (.int (M.1 47 v1.toNatClampNeg)))
  · replace h := mm_iq hc h
    cases h
    exact (show mp_145_120 L xs (d + 1) M o from hA) (some (.ref 42)) (some (.int v1)) z2
theorem ms_145_L77 {L : Nat} {xs : Nat → Int32} {d : Nat} (hd : 1 ≤ d) {v1 : Int32} {β : Type} {K : β → mm_M → mm_E → Prop} {F : (Unit) → mm_M → mm_O β} {M : mm_M} {q : (β ⊕ Nat) × mm_M} {o : mm_E} (h : mm_B (mf_145_L77 v1 M) F = some q) (hA : mm_A K q o) (hx : ∀ (r : (Unit)) (M2 : mm_M), F r M2 = some q → (fun r M o => mp_145_120 L xs (d) M o) r M2 o) : mp_145_77 L xs d v1 M o := by
  unfold mf_145_L77 at h
  exact mm_R_loop (step := (fun s M => mf_145_b77 s M)) (s := v1) (M := M) (P := (fun s M o => mp_145_77 L xs (d) s M o)) (X := (fun r M o => mp_145_120 L xs (d) M o)) h hA (fun s M q hq hA => ms_145_b77 (v1 := s) (M := M) (q := q) hd hq hA) hx
set_option maxRecDepth 8000 in
set_option maxHeartbeats 4000000 in
theorem ms_145 {L : Nat} {xs : Nat → Int32} {d : Nat} (hd : 1 ≤ d) {M : mm_M} {q : (Unit ⊕ Nat) × mm_M} {o : mm_E} (h : mf_145 M = some q) (hA : mm_A (mm_Kr mm_wv) q o) : mm_Runs L xs d 145 (0, mm_ent (mm_ml 145) [.ref 42], [], M) o := by
  unfold mf_145 at h
  obtain ⟨d, rfl⟩ := mm_d1 (n := 0) hd
  show mm_Runs L xs (d + 1) 145 (0, [some (.ref 42), none, none], [], M) o
  refine mm_Runs.seq (l := [(0, .aload_n 0, 1), (1, .getfield 33, 3), (4, .iconst 0, 1)]) (S2 := (5, [some (.ref 42), none, none], [.int (0 : Int32), .ref 49], M)) (by decide +kernel) (hO := mm_own_145) rfl ?_
  refine mm_R_call (v := mm_wv) h hA (k2 := 290) (as := [.ref 49, .int (0 : Int32)]) (r := []) rfl (fun _ => rfl) (fun q hq o ho => ms_290 rfl (by omega) hq ho) (fun _ M1 h => ?_)
  show mm_Runs L xs (d + 1) 145 (8, [some (.ref 42), none, none], [], M1) o
  refine mm_Runs.seq (l := [(8, .iconst 0, 1), (9, .istore_n 1, 1)]) (S2 := (10, [some (.ref 42), some (.int (0 : Int32)), none], [], M1)) (by decide +kernel) (hO := mm_own_145) rfl ?_
  have hp : mp_145_10 L xs (d + 1) (0 : Int32) M1 o := by
    refine ms_145_L10 hd h hA (fun r3 M2 h => ?_)
    intro y4 y5
    show mm_Runs L xs (d + 1) 145 (41, [some (.ref 42), y4, y5], [], M2) o
    refine mm_Runs.seq (l := [(41, .iconst 1, 1), (42, .istore_n 1, 1)]) (S2 := (43, [some (.ref 42), some (.int (1 : Int32)), y5], [], M2)) (by decide +kernel) (hO := mm_own_145) rfl ?_
    have hp : mp_145_43 L xs (d + 1) (1 : Int32) M2 o := by
      refine ms_145_L43 hd h hA (fun r7 M6 h => ?_)
      intro y8 y9
      show mm_Runs L xs (d + 1) 145 (75, [some (.ref 42), y8, y9], [], M6) o
      refine mm_Runs.seq (l := [(75, .iconst 0, 1), (76, .istore_n 1, 1)]) (S2 := (77, [some (.ref 42), some (.int (0 : Int32)), y9], [], M6)) (by decide +kernel) (hO := mm_own_145) rfl ?_
      have hp : mp_145_77 L xs (d + 1) (0 : Int32) M6 o := by
        refine ms_145_L77 hd h hA (fun r11 M10 h => ?_)
        intro y12 y13 y14
        show mm_Runs L xs (d + 1) 145 (120, [y12, y13, y14], [], M10) o
        cases h
        exact mm_R_retv rfl rfl hA
      exact hp y9
    exact hp y5
  exact hp none
