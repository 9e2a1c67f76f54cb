/-! MEANINGS ARE SOUND 10 -/
-- 146: PlainPacks$Sorted.putText()V (depth 8)
theorem mm_own_146 : mm_own 146 = 10 := rfl
def mp_146_17 (L : Nat) (xs : Nat → Int32) (d : Nat) (v1 : Int32) (v2 : Int32) (v3 : Int32) (v4 : Int32) (M : mm_M) (o : mm_E) : Prop := ∀ z5 z6 : Option Value, mm_Runs L xs d 146 (17, [some (.ref 42), some (.int v1), some (.int v2), some (.int v3), some (.int v4), z5, z6], [], M) o
def mp_146_109 (L : Nat) (xs : Nat → Int32) (d : Nat) (M : mm_M) (o : mm_E) : Prop := ∀ z0 z1 z2 z3 z4 z5 z6 : Option Value, mm_Runs L xs d 146 (109, [z0, z1, z2, z3, z4, z5, z6], [], M) o
def mp_146_49 (L : Nat) (xs : Nat → Int32) (d : Nat) (v1 : Int32) (v3 : Int32) (v4 : Int32) (v5 : Int32) (v6 : Int32) (M : mm_M) (o : mm_E) : Prop := ∀ z2 : Option Value, mm_Runs L xs d 146 (49, [some (.ref 42), some (.int v1), z2, some (.int v3), some (.int v4), some (.int v5), some (.int v6)], [], M) o
def mp_146_70 (L : Nat) (xs : Nat → Int32) (d : Nat) (v3 : Int32) (v4 : Int32) (M : mm_M) (o : mm_E) : Prop := ∀ z1 z2 z5 z6 : Option Value, mm_Runs L xs d 146 (70, [some (.ref 42), z1, z2, some (.int v3), some (.int v4), z5, z6], [], M) o
set_option maxRecDepth 8000 in
set_option maxHeartbeats 4000000 in
theorem ms_146_b49 {L : Nat} {xs : Nat → Int32} {d : Nat} (hd : 8 ≤ d) {v1 : Int32} {v3 : Int32} {v4 : Int32} {v5 : Int32} {v6 : Int32} {M : mm_M} {q : (((Int32) ⊕ (Unit)) ⊕ Nat) × mm_M} {o : mm_E} (h : mf_146_b49 v1 v3 v4 v5 v6 M = some q) (hA : mm_A (mm_K2 (fun s M o => mp_146_49 L xs (d) v1 v3 v4 v5 s M o) (fun r M o => mp_146_70 L xs (d) v3 v4 M o)) q o) : mp_146_49 L xs d v1 v3 v4 v5 v6 M o := by
  unfold mf_146_b49 at h
  obtain ⟨d, rfl⟩ := mm_d1 (n := 7) hd
  intro z2
  show mm_Runs L xs (d + 1) 146 (49, [some (.ref 42), some (.int v1), z2, some (.int v3), some (.int v4), some (.int v5), some (.int v6)], [], M) o
  refine mm_Runs.seq (l := [(49, .iload 6, 2), (51, .iload 5, 2)]) (S2 := (53, [some (.ref 42), some (.int v1), z2, some (.int v3), some (.int v4), some (.int v5), some (.int v6)], [.int v5, .int v6], M)) (by decide +kernel) (hO := mm_own_146) rfl ?_
  refine mm_R_ige (t := 70) rfl rfl rfl (fun hc => ?_) (fun hc => ?_)
  · replace h := mm_ip hc h
    refine mm_Runs.seq (l := [(56, .aload_n 0, 1), (57, .getfield 40, 3), (60, .iload_n 1, 1)]) (S2 := (61, [some (.ref 42), some (.int v1), z2, some (.int v3), some (.int v4), some (.int v5), some (.int v6)], [.int v1, .ref 3], M)) (by decide +kernel) (hO := mm_own_146) rfl ?_
    refine mm_R_call (v := mm_wv) h hA (k2 := 51) (as := [.ref 3, .int v1]) (r := []) rfl (fun _ => rfl) (fun q hq o ho => ms_51 (by omega) hq ho) (fun _ M1 h => ?_)
    show mm_Runs L xs (d + 1) 146 (64, [some (.ref 42), some (.int v1), z2, some (.int v3), some (.int v4), some (.int v5), some (.int v6)], [], M1) o
    refine mm_Runs.seq (l := [(64, .iinc 6 1, 3), (67, .goto (-18), 3)]) (S2 := (49, [some (.ref 42), some (.int v1), z2, some (.int v3), some (.int v4), some (.int v5), some (.int (v6 + (1 : Int32)))], [], M1)) (by decide +kernel) (hO := mm_own_146) rfl ?_
    cases h
    exact (show mp_146_49 L xs (d + 1) v1 v3 v4 v5 (v6 + (1 : Int32)) M1 o from hA) z2
  · replace h := mm_iq hc h
    cases h
    exact (show mp_146_70 L xs (d + 1) v3 v4 M o from hA) (some (.int v1)) z2 (some (.int v5)) (some (.int v6))
theorem ms_146_L49 {L : Nat} {xs : Nat → Int32} {d : Nat} (hd : 8 ≤ d) {v1 : Int32} {v3 : Int32} {v4 : Int32} {v5 : Int32} {v6 : Int32} {β : Type} {K : β → mm_M → mm_E → Prop} {F : (Unit) → mm_M → mm_O β} {M : mm_M} {q : (β ⊕ Nat) × mm_M} {o : mm_E} (h : mm_B (mf_146_L49 v1 v3 v4 v5 v6 M) F = some q) (hA : mm_A K q o) (hx : ∀ (r : (Unit)) (M2 : mm_M), F r M2 = some q → (fun r M o => mp_146_70 L xs (d) v3 v4 M o) r M2 o) : mp_146_49 L xs d v1 v3 v4 v5 v6 M o := by
  unfold mf_146_L49 at h
  exact mm_R_loop (step := (fun s M => mf_146_b49 v1 v3 v4 v5 s M)) (s := v6) (M := M) (P := (fun s M o => mp_146_49 L xs (d) v1 v3 v4 v5 s M o)) (X := (fun r M o => mp_146_70 L xs (d) v3 v4 M o)) h hA (fun s M q hq hA => ms_146_b49 (v1 := v1) (v3 := v3) (v4 := v4) (v5 := v5) (v6 := s) (M := M) (q := q) hd hq hA) hx
def mp_146_90 (L : Nat) (xs : Nat → Int32) (d : Nat) (v3 : Int32) (v4 : Int32) (v5 : Int32) (s0 : Int32) (M : mm_M) (o : mm_E) : Prop := ∀ z1 z2 z6 : Option Value, mm_Runs L xs d 146 (90, [some (.ref 42), z1, z2, some (.int v3), some (.int v4), some (.int v5), z6], [.int s0], M) o
set_option maxRecDepth 8000 in
set_option maxHeartbeats 4000000 in
theorem ms_146_j90 {L : Nat} {xs : Nat → Int32} {d : Nat} (hd : 8 ≤ d) {v3 : Int32} {v4 : Int32} {v5 : Int32} {s0 : Int32} {M : mm_M} {q : (((Int32 × Int32 × Int32 × Int32) ⊕ (Unit)) ⊕ Nat) × mm_M} {o : mm_E} (h : mf_146_j90 v3 v4 v5 s0 M = some q) (hA : mm_A (mm_K2 (fun s M o => mp_146_17 L xs (d) s.1 s.2.1 s.2.2.1 s.2.2.2 M o) (fun r M o => mp_146_109 L xs (d) M o)) q o) : mp_146_90 L xs d v3 v4 v5 s0 M o := by
  unfold mf_146_j90 at h
  obtain ⟨d, rfl⟩ := mm_d1 (n := 7) hd
  intro z1 z2 z6
  show mm_Runs L xs (d + 1) 146 (90, [some (.ref 42), z1, z2, some (.int v3), some (.int v4), some (.int v5), z6], [.int s0], M) o
  refine mm_Runs.seq (l := [(90, .istore_n 2, 1), (91, .iload 5, 2), (93, .istore_n 1, 1), (94, .aload_n 0, 1), (95, .getfield 40, 3), (98, .iload 5, 2)]) (S2 := (100, [some (.ref 42), some (.int v5), some (.int s0), some (.int v3), some (.int v4), some (.int v5), z6], [.int v5, .ref 3], M)) (by decide +kernel) (hO := mm_own_146) rfl ?_
  refine mm_R_call (v := mm_wv) h hA (k2 := 51) (as := [.ref 3, .int v5]) (r := []) rfl (fun _ => rfl) (fun q hq o ho => ms_51 (by omega) hq ho) (fun _ M1 h => ?_)
  show mm_Runs L xs (d + 1) 146 (103, [some (.ref 42), some (.int v5), some (.int s0), some (.int v3), some (.int v4), some (.int v5), z6], [], M1) o
  refine mm_Runs.seq (l := [(103, .iinc 4 1, 3), (106, .goto (-89), 3)]) (S2 := (17, [some (.ref 42), some (.int v5), some (.int s0), some (.int v3), some (.int (v4 + (1 : Int32))), some (.int v5), z6], [], M1)) (by decide +kernel) (hO := mm_own_146) rfl ?_
  cases h
  exact (show mp_146_17 L xs (d + 1) v5 s0 v3 (v4 + (1 : Int32)) M1 o from hA) (some (.int v5)) z6
set_option maxRecDepth 8000 in
set_option maxHeartbeats 4000000 in
theorem ms_146_b17 {L : Nat} {xs : Nat → Int32} {d : Nat} (hd : 8 ≤ d) {v1 : Int32} {v2 : Int32} {v3 : Int32} {v4 : Int32} {M : mm_M} {q : (((Int32 × Int32 × Int32 × Int32) ⊕ (Unit)) ⊕ Nat) × mm_M} {o : mm_E} (h : mf_146_b17 v1 v2 v3 v4 M = some q) (hA : mm_A (mm_K2 (fun s M o => mp_146_17 L xs (d) s.1 s.2.1 s.2.2.1 s.2.2.2 M o) (fun r M o => mp_146_109 L xs (d) M o)) q o) : mp_146_17 L xs d v1 v2 v3 v4 M o := by
  unfold mf_146_b17 at h
  obtain ⟨d, rfl⟩ := mm_d1 (n := 7) hd
  intro z5 z6
  show mm_Runs L xs (d + 1) 146 (17, [some (.ref 42), some (.int v1), some (.int v2), some (.int v3), some (.int v4), z5, z6], [], M) o
  refine mm_Runs.seq (l := [(17, .iload 4, 2), (19, .aload_n 0, 1), (20, .getfield 124, 3)]) (S2 := (23, [some (.ref 42), some (.int v1), some (.int v2), some (.int v3), some (.int v4), z5, z6], [.int (M.1 42 12), .int v4], M)) (by decide +kernel) (hO := mm_own_146) rfl ?_
  refine mm_R_ige (t := 109) rfl rfl rfl (fun hc => ?_) (fun hc => ?_)
  · replace h := mm_ip hc h
    refine mm_Runs.seq (l := [(26, .aload_n 0, 1), (27, .getfield 27, 3), (30, .iload_n 3, 1)]) (S2 := (31, [some (.ref 42), some (.int v1), some (.int v2), some (.int v3), some (.int v4), z5, z6], [.int v3, .ref 47], M)) (by decide +kernel) (hO := mm_own_146) rfl ?_
    obtain ⟨hb, h⟩ := mm_gd h
    refine mm_R_iald rfl rfl hb ?_
    refine mm_Runs.seq (l := [(32, .istore 5, 2), (34, .aload_n 0, 1), (35, .getfield 30, 3), (38, .iload_n 3, 1)]) (S2 := (39, [some (.ref 42), some (.int v1), some (.int v2), some (.int v3), some (.int v4), some (.int (M.1 47 v3.toNatClampNeg)), z6], [.int v3, .ref 48], M)) (by decide +kernel) (hO := mm_own_146) rfl ?_
    obtain ⟨hb, h⟩ := mm_gd h
    refine mm_R_iald rfl rfl hb ?_
    refine mm_Runs.seq (l := [(40, .istore_n 3, 1), (41, .iload_n 2, 1), (42, .iconst 4, 1)]) (S2 := (43, [some (.ref 42), some (.int v1), some (.int v2), some (.int (M.1 48 v3.toNatClampNeg)), some (.int v4), some (.int (M.1 47 v3.toNatClampNeg)), z6], [.int (4 : Int32), .int v2], M)) (by decide +kernel) (hO := mm_own_146) rfl ?_
    refine mm_R_ine (t := 77) rfl rfl rfl (fun hc => ?_) (fun hc => ?_)
    · replace h := mm_ip hc h
      refine mm_Runs.seq (l := [(46, .iconst 0, 1), (47, .istore 6, 2)]) (S2 := (49, [some (.ref 42), some (.int v1), some (.int v2), some (.int (M.1 48 v3.toNatClampNeg)), some (.int v4), some (.int (M.1 47 v3.toNatClampNeg)), some (.int (0 : Int32))], [], M)) (by decide +kernel) (hO := mm_own_146) rfl ?_
      have hp : mp_146_49 L xs (d + 1) v1 (M.1 48 v3.toNatClampNeg) v4 (M.1 47 v3.toNatClampNeg) (0 : Int32) M o := by
        refine ms_146_L49 hd h hA (fun r2 M1 h => ?_)
        intro y3 y4 y5 y6
        show mm_Runs L xs (d + 1) 146 (70, [some (.ref 42), y3, y4, some (.int (M.1 48 v3.toNatClampNeg)), some (.int v4), y5, y6], [], M1) o
        refine mm_Runs.seq (l := [(70, .iconst 0, 1), (71, .istore_n 2, 1), (72, .iconst (-1), 1), (73, .istore_n 1, 1), (74, .goto 29, 3), (103, .iinc 4 1, 3), (106, .goto (-89), 3)]) (S2 := (17, [some (.ref 42), some (.int (-1 : Int32)), some (.int (0 : Int32)), some (.int (M.1 48 v3.toNatClampNeg)), some (.int (v4 + (1 : Int32))), y5, y6], [], M1)) (by decide +kernel) (hO := mm_own_146) rfl ?_
        cases h
        exact (show mp_146_17 L xs (d + 1) (-1 : Int32) (0 : Int32) (M.1 48 v3.toNatClampNeg) (v4 + (1 : Int32)) M1 o from hA) y5 y6
      exact hp (some (.int v2))
    · replace h := mm_iq hc h
      refine mm_Runs.seq (l := [(77, .iload 5, 2), (79, .iload_n 1, 1)]) (S2 := (80, [some (.ref 42), some (.int v1), some (.int v2), some (.int (M.1 48 v3.toNatClampNeg)), some (.int v4), some (.int (M.1 47 v3.toNatClampNeg)), z6], [.int v1, .int (M.1 47 v3.toNatClampNeg)], M)) (by decide +kernel) (hO := mm_own_146) rfl ?_
      refine mm_R_ine (t := 89) rfl rfl rfl (fun hc => ?_) (fun hc => ?_)
      · replace h := mm_ip hc h
        refine mm_Runs.seq (l := [(83, .iload_n 2, 1), (84, .iconst 1, 1), (85, .iadd, 1), (86, .goto 4, 3)]) (S2 := (90, [some (.ref 42), some (.int v1), some (.int v2), some (.int (M.1 48 v3.toNatClampNeg)), some (.int v4), some (.int (M.1 47 v3.toNatClampNeg)), z6], [.int (v2 + (1 : Int32))], M)) (by decide +kernel) (hO := mm_own_146) rfl ?_
        exact (ms_146_j90 hd h hA : mp_146_90 L xs (d + 1) (M.1 48 v3.toNatClampNeg) v4 (M.1 47 v3.toNatClampNeg) (v2 + (1 : Int32)) M o) (some (.int v1)) (some (.int v2)) z6
      · replace h := mm_iq hc h
        refine mm_Runs.seq (l := [(89, .iconst 1, 1)]) (S2 := (90, [some (.ref 42), some (.int v1), some (.int v2), some (.int (M.1 48 v3.toNatClampNeg)), some (.int v4), some (.int (M.1 47 v3.toNatClampNeg)), z6], [.int (1 : Int32)], M)) (by decide +kernel) (hO := mm_own_146) rfl ?_
        exact (ms_146_j90 hd h hA : mp_146_90 L xs (d + 1) (M.1 48 v3.toNatClampNeg) v4 (M.1 47 v3.toNatClampNeg) (1 : Int32) M o) (some (.int v1)) (some (.int v2)) z6
  · replace h := mm_iq hc h
    cases h
    exact (show mp_146_109 L xs (d + 1) M o from hA) (some (.ref 42)) (some (.int v1)) (some (.int v2)) (some (.int v3)) (some (.int v4)) z5 z6
theorem ms_146_L17 {L : Nat} {xs : Nat → Int32} {d : Nat} (hd : 8 ≤ d) {v1 : Int32} {v2 : Int32} {v3 : Int32} {v4 : Int32} {β : Type} {K : β → mm_M → mm_E → Prop} {F : (Unit) → mm_M → mm_O β} {M : mm_M} {q : (β ⊕ Nat) × mm_M} {o : mm_E} (h : mm_B (mf_146_L17 (v1, v2, v3, v4) M) F = some q) (hA : mm_A K q o) (hx : ∀ (r : (Unit)) (M2 : mm_M), F r M2 = some q → (fun r M o => mp_146_109 L xs (d) M o) r M2 o) : mp_146_17 L xs d v1 v2 v3 v4 M o := by
  unfold mf_146_L17 at h
  exact mm_R_loop (step := (fun s M => mf_146_b17 s.1 s.2.1 s.2.2.1 s.2.2.2 M)) (s := (v1, v2, v3, v4)) (M := M) (P := (fun s M o => mp_146_17 L xs (d) s.1 s.2.1 s.2.2.1 s.2.2.2 M o)) (X := (fun r M o => mp_146_109 L xs (d) M o)) h hA (fun s M q hq hA => ms_146_b17 (v1 := s.1) (v2 := s.2.1) (v3 := s.2.2.1) (v4 := s.2.2.2) (M := M) (q := q) hd hq hA) hx
set_option maxRecDepth 8000 in
set_option maxHeartbeats 4000000 in
theorem ms_146 {L : Nat} {xs : Nat → Int32} {d : Nat} (hd : 8 ≤ d) {M : mm_M} {q : (Unit ⊕ Nat) × mm_M} {o : mm_E} (h : mf_146 M = some q) (hA : mm_A (mm_Kr mm_wv) q o) : mm_Runs L xs d 146 (0, mm_ent (mm_ml 146) [.ref 42], [], M) o := by
  unfold mf_146 at h
  obtain ⟨d, rfl⟩ := mm_d1 (n := 7) hd
  show mm_Runs L xs (d + 1) 146 (0, [some (.ref 42), none, none, none, none, none, none], [], M) o
  refine mm_Runs.seq (l := [(0, .iconst (-1), 1), (1, .istore_n 1, 1), (2, .iconst 0, 1), (3, .istore_n 2, 1), (4, .aload_n 0, 1), (5, .getfield 30, 3), (8, .aload_n 0, 1), (9, .getfield 108, 3)]) (S2 := (12, [some (.ref 42), some (.int (-1 : Int32)), some (.int (0 : Int32)), none, none, none, none], [.int (M.1 42 10), .ref 48], M)) (by decide +kernel) (hO := mm_own_146) rfl ?_
  obtain ⟨hb, h⟩ := mm_gd h
  refine mm_R_iald rfl rfl hb ?_
  refine mm_Runs.seq (l := [(13, .istore_n 3, 1), (14, .iconst 0, 1), (15, .istore 4, 2)]) (S2 := (17, [some (.ref 42), some (.int (-1 : Int32)), some (.int (0 : Int32)), some (.int (M.1 48 (M.1 42 10).toNatClampNeg)), some (.int (0 : Int32)), none, none], [], M)) (by decide +kernel) (hO := mm_own_146) rfl ?_
  have hp : mp_146_17 L xs (d + 1) (-1 : Int32) (0 : Int32) (M.1 48 (M.1 42 10).toNatClampNeg) (0 : Int32) M o := by
    refine ms_146_L17 hd h hA (fun r2 M1 h => ?_)
    intro y3 y4 y5 y6 y7 y8 y9
    show mm_Runs L xs (d + 1) 146 (109, [y3, y4, y5, y6, y7, y8, y9], [], M1) o
    cases h
    exact mm_R_retv rfl rfl hA
  exact hp none none
-- 29: PlainPacks.crcHighOf([III)I (depth 0)
theorem mm_own_29 : mm_own 29 = 0 := rfl
def mp_29_5 (L : Nat) (xs : Nat → Int32) (p : Nat) (n : Nat) (d : Nat) (v2 : Int32) (v3 : Int32) (v4 : Int32) (M : mm_M) (o : mm_E) : Prop := ∀ z1 z5 : Option Value, mm_Runs L xs d 29 (5, [some (.ref p), z1, some (.int v2), some (.int v3), some (.int v4), z5], [], M) o
def mp_29_61 (L : Nat) (xs : Nat → Int32) (p : Nat) (n : Nat) (d : Nat) (v3 : Int32) (M : mm_M) (o : mm_E) : Prop := ∀ z0 z1 z2 z4 z5 : Option Value, mm_Runs L xs d 29 (61, [z0, z1, z2, some (.int v3), z4, z5], [], M) o
def mp_29_24 (L : Nat) (xs : Nat → Int32) (p : Nat) (n : Nat) (d : Nat) (v2 : Int32) (v3 : Int32) (v4 : Int32) (v5 : Int32) (M : mm_M) (o : mm_E) : Prop := ∀ z1 : Option Value, mm_Runs L xs d 29 (24, [some (.ref p), z1, some (.int v2), some (.int v3), some (.int v4), some (.int v5)], [], M) o
def mp_29_55 (L : Nat) (xs : Nat → Int32) (p : Nat) (n : Nat) (d : Nat) (v2 : Int32) (v3 : Int32) (v4 : Int32) (M : mm_M) (o : mm_E) : Prop := ∀ z1 z5 : Option Value, mm_Runs L xs d 29 (55, [some (.ref p), z1, some (.int v2), some (.int v3), some (.int v4), z5], [], M) o
set_option maxRecDepth 8000 in
set_option maxHeartbeats 4000000 in
theorem ms_29_b24 {L : Nat} {xs : Nat → Int32} {p : Nat} {n : Nat} {d : Nat} (ha : mm_aat 0 p = some n) (hd : 0 ≤ d) {v2 : Int32} {v3 : Int32} {v4 : Int32} {v5 : Int32} {M : mm_M} {q : (((Int32 × Int32) ⊕ (Int32)) ⊕ Nat) × mm_M} {o : mm_E} (h : mf_29_b24 p n v2 v3 v4 v5 M = some q) (hA : mm_A (mm_K2 (fun s M o => mp_29_24 L xs p n (d) v2 s.1 v4 s.2 M o) (fun r M o => mp_29_55 L xs p n (d) v2 r v4 M o)) q o) : mp_29_24 L xs p n d v2 v3 v4 v5 M o := by
  unfold mf_29_b24 at h
  intro z1
  show mm_Runs L xs (d) 29 (24, [some (.ref p), z1, some (.int v2), some (.int v3), some (.int v4), some (.int v5)], [], M) o
  refine mm_Runs.seq (l := [(24, .iload 5, 2), (26, .bipush 8, 2)]) (S2 := (28, [some (.ref p), z1, some (.int v2), some (.int v3), some (.int v4), some (.int v5)], [.int (8 : Int32), .int v5], M)) (by decide +kernel) (hO := mm_own_29) rfl ?_
  refine mm_R_ige (t := 55) rfl rfl rfl (fun hc => ?_) (fun hc => ?_)
  · replace h := mm_ip hc h
    refine mm_Runs.seq (l := [(31, .iload_n 3, 1)]) (S2 := (32, [some (.ref p), z1, some (.int v2), some (.int v3), some (.int v4), some (.int v5)], [.int v3], M)) (by decide +kernel) (hO := mm_own_29) rfl ?_
    refine mm_R_zge (t := 45) rfl rfl rfl (fun hc => ?_) (fun hc => ?_)
    · replace h := mm_ip hc h
      refine mm_Runs.seq (l := [(35, .iload_n 3, 1), (36, .iconst 1, 1), (37, .ishl, 1), (38, .ldc_w 283, 3), (41, .ixor, 1), (42, .goto 6, 3), (48, .istore_n 3, 1), (49, .iinc 5 1, 3), (52, .goto (-28), 3)]) (S2 := (24, [some (.ref p), z1, some (.int v2), some (.int ((mm_shl v3 (1 : Int32)) ^^^ (79764919 : Int32))), some (.int v4), some (.int (v5 + (1 : Int32)))], [], M)) (by decide +kernel) (hO := mm_own_29) rfl ?_
      cases h
      exact (show mp_29_24 L xs p n (d) v2 ((mm_shl v3 (1 : Int32)) ^^^ (79764919 : Int32)) v4 (v5 + (1 : Int32)) M o from hA) z1
    · replace h := mm_iq hc h
      refine mm_Runs.seq (l := [(45, .iload_n 3, 1), (46, .iconst 1, 1), (47, .ishl, 1), (48, .istore_n 3, 1), (49, .iinc 5 1, 3), (52, .goto (-28), 3)]) (S2 := (24, [some (.ref p), z1, some (.int v2), some (.int (mm_shl v3 (1 : Int32))), some (.int v4), some (.int (v5 + (1 : Int32)))], [], M)) (by decide +kernel) (hO := mm_own_29) rfl ?_
      cases h
      exact (show mp_29_24 L xs p n (d) v2 (mm_shl v3 (1 : Int32)) v4 (v5 + (1 : Int32)) M o from hA) z1
  · replace h := mm_iq hc h
    cases h
    exact (show mp_29_55 L xs p n (d) v2 v3 v4 M o from hA) z1 (some (.int v5))
theorem ms_29_L24 {L : Nat} {xs : Nat → Int32} {p : Nat} {n : Nat} {d : Nat} (ha : mm_aat 0 p = some n) (hd : 0 ≤ d) {v2 : Int32} {v3 : Int32} {v4 : Int32} {v5 : Int32} {β : Type} {K : β → mm_M → mm_E → Prop} {F : (Int32) → mm_M → mm_O β} {M : mm_M} {q : (β ⊕ Nat) × mm_M} {o : mm_E} (h : mm_B (mf_29_L24 p n v2 v4 (v3, v5) M) F = some q) (hA : mm_A K q o) (hx : ∀ (r : (Int32)) (M2 : mm_M), F r M2 = some q → (fun r M o => mp_29_55 L xs p n (d) v2 r v4 M o) r M2 o) : mp_29_24 L xs p n d v2 v3 v4 v5 M o := by
  unfold mf_29_L24 at h
  exact mm_R_loop (step := (fun s M => mf_29_b24 p n v2 s.1 v4 s.2 M)) (s := (v3, v5)) (M := M) (P := (fun s M o => mp_29_24 L xs p n (d) v2 s.1 v4 s.2 M o)) (X := (fun r M o => mp_29_55 L xs p n (d) v2 r v4 M o)) h hA (fun s M q hq hA => ms_29_b24 ha (v2 := v2) (v3 := s.1) (v4 := v4) (v5 := s.2) (M := M) (q := q) hd hq hA) hx
set_option maxRecDepth 8000 in
set_option maxHeartbeats 4000000 in
theorem ms_29_b5 {L : Nat} {xs : Nat → Int32} {p : Nat} {n : Nat} {d : Nat} (ha : mm_aat 0 p = some n) (hd : 0 ≤ d) {v2 : Int32} {v3 : Int32} {v4 : Int32} {M : mm_M} {q : (((Int32 × Int32) ⊕ (Int32)) ⊕ Nat) × mm_M} {o : mm_E} (h : mf_29_b5 p n v2 v3 v4 M = some q) (hA : mm_A (mm_K2 (fun s M o => mp_29_5 L xs p n (d) v2 s.1 s.2 M o) (fun r M o => mp_29_61 L xs p n (d) r M o)) q o) : mp_29_5 L xs p n d v2 v3 v4 M o := by
  unfold mf_29_b5 at h
  intro z1 z5
  show mm_Runs L xs (d) 29 (5, [some (.ref p), z1, some (.int v2), some (.int v3), some (.int v4), z5], [], M) o
  refine mm_Runs.seq (l := [(5, .iload 4, 2), (7, .iload_n 2, 1)]) (S2 := (8, [some (.ref p), z1, some (.int v2), some (.int v3), some (.int v4), z5], [.int v2, .int v4], M)) (by decide +kernel) (hO := mm_own_29) rfl ?_
  refine mm_R_ige (t := 61) rfl rfl rfl (fun hc => ?_) (fun hc => ?_)
  · replace h := mm_ip hc h
    refine mm_Runs.seq (l := [(11, .iload_n 3, 1), (12, .aload_n 0, 1), (13, .iload 4, 2)]) (S2 := (15, [some (.ref p), z1, some (.int v2), some (.int v3), some (.int v4), z5], [.int v4, .ref p, .int v3], M)) (by decide +kernel) (hO := mm_own_29) rfl ?_
    obtain ⟨hb, h⟩ := mm_gd h
    refine mm_R_iald rfl ha hb ?_
    refine mm_Runs.seq (l := [(16, .bipush 24, 2), (18, .ishl, 1), (19, .ixor, 1), (20, .istore_n 3, 1), (21, .iconst 0, 1), (22, .istore 5, 2)]) (S2 := (24, [some (.ref p), z1, some (.int v2), some (.int (v3 ^^^ (mm_shl (M.1 p v4.toNatClampNeg) (24 : Int32)))), some (.int v4), some (.int (0 : Int32))], [], M)) (by decide +kernel) (hO := mm_own_29) rfl ?_
    have hp : mp_29_24 L xs p n (d) v2 (v3 ^^^ (mm_shl (M.1 p v4.toNatClampNeg) (24 : Int32))) v4 (0 : Int32) M o := by
      refine ms_29_L24 ha hd h hA (fun r2 M1 h => ?_)
      intro y3 y4
      show mm_Runs L xs (d) 29 (55, [some (.ref p), y3, some (.int v2), some (.int r2), some (.int v4), y4], [], M1) o
      refine mm_Runs.seq (l := [(55, .iinc 4 1, 3), (58, .goto (-53), 3)]) (S2 := (5, [some (.ref p), y3, some (.int v2), some (.int r2), some (.int (v4 + (1 : Int32))), y4], [], M1)) (by decide +kernel) (hO := mm_own_29) rfl ?_
      cases h
      exact (show mp_29_5 L xs p n (d) v2 r2 (v4 + (1 : Int32)) M1 o from hA) y3 y4
    exact hp z1
  · replace h := mm_iq hc h
    cases h
    exact (show mp_29_61 L xs p n (d) v3 M o from hA) (some (.ref p)) z1 (some (.int v2)) (some (.int v4)) z5
theorem ms_29_L5 {L : Nat} {xs : Nat → Int32} {p : Nat} {n : Nat} {d : Nat} (ha : mm_aat 0 p = some n) (hd : 0 ≤ d) {v2 : Int32} {v3 : Int32} {v4 : Int32} {β : Type} {K : β → mm_M → mm_E → Prop} {F : (Int32) → mm_M → mm_O β} {M : mm_M} {q : (β ⊕ Nat) × mm_M} {o : mm_E} (h : mm_B (mf_29_L5 p n v2 (v3, v4) M) F = some q) (hA : mm_A K q o) (hx : ∀ (r : (Int32)) (M2 : mm_M), F r M2 = some q → (fun r M o => mp_29_61 L xs p n (d) r M o) r M2 o) : mp_29_5 L xs p n d v2 v3 v4 M o := by
  unfold mf_29_L5 at h
  exact mm_R_loop (step := (fun s M => mf_29_b5 p n v2 s.1 s.2 M)) (s := (v3, v4)) (M := M) (P := (fun s M o => mp_29_5 L xs p n (d) v2 s.1 s.2 M o)) (X := (fun r M o => mp_29_61 L xs p n (d) r M o)) h hA (fun s M q hq hA => ms_29_b5 ha (v2 := v2) (v3 := s.1) (v4 := s.2) (M := M) (q := q) hd hq hA) hx
set_option maxRecDepth 8000 in
set_option maxHeartbeats 4000000 in
theorem ms_29 {L : Nat} {xs : Nat → Int32} {p : Nat} {n : Nat} {d : Nat} (ha : mm_aat 0 p = some n) (hd : 0 ≤ d) {v1 : Int32} {v2 : Int32} {M : mm_M} {q : (Int32 ⊕ Nat) × mm_M} {o : mm_E} (h : mf_29 p n v1 v2 M = some q) (hA : mm_A (mm_Kr mm_wi) q o) : mm_Runs L xs d 29 (0, mm_ent (mm_ml 29) [.ref p, .int v1, .int v2], [], M) o := by
  unfold mf_29 at h
  show mm_Runs L xs (d) 29 (0, [some (.ref p), some (.int v1), some (.int v2), none, none, none], [], M) o
  refine mm_Runs.seq (l := [(0, .iconst (-1), 1), (1, .istore_n 3, 1), (2, .iload_n 1, 1), (3, .istore 4, 2)]) (S2 := (5, [some (.ref p), some (.int v1), some (.int v2), some (.int (-1 : Int32)), some (.int v1), none], [], M)) (by decide +kernel) (hO := mm_own_29) rfl ?_
  have hp : mp_29_5 L xs p n (d) v2 (-1 : Int32) v1 M o := by
    refine ms_29_L5 ha hd h hA (fun r2 M1 h => ?_)
    intro y3 y4 y5 y6 y7
    show mm_Runs L xs (d) 29 (61, [y3, y4, y5, some (.int r2), y6, y7], [], M1) o
    refine mm_Runs.seq (l := [(61, .iload_n 3, 1), (62, .iconst (-1), 1), (63, .ixor, 1)]) (S2 := (64, [y3, y4, y5, some (.int r2), y6, y7], [.int (r2 ^^^ (-1 : Int32))], M1)) (by decide +kernel) (hO := mm_own_29) rfl ?_
    cases h
    exact mm_R_reti rfl rfl hA
  exact hp (some (.int v1)) none
-- 137: PlainPacks$Sorted.readSorted()V (depth 11)
theorem mm_own_137 : mm_own 137 = 10 := rfl
def mp_137_17 (L : Nat) (xs : Nat → Int32) (d : Nat) (s0 : Int32) (M : mm_M) (o : mm_E) : Prop := ∀ z1 z2 z3 z4 z5 z6 z7 : Option Value, mm_Runs L xs d 137 (17, [some (.ref 42), z1, z2, z3, z4, z5, z6, z7], [.int s0], M) o
def mp_137_37 (L : Nat) (xs : Nat → Int32) (d : Nat) (s0 : Int32) (M : mm_M) (o : mm_E) : Prop := ∀ z1 z2 z3 z4 z5 z6 z7 : Option Value, mm_Runs L xs d 137 (37, [some (.ref 42), z1, z2, z3, z4, z5, z6, z7], [.int s0], M) o
def mp_137_57 (L : Nat) (xs : Nat → Int32) (d : Nat) (s0 : Int32) (M : mm_M) (o : mm_E) : Prop := ∀ z1 z2 z3 z4 z5 z6 z7 : Option Value, mm_Runs L xs d 137 (57, [some (.ref 42), z1, z2, z3, z4, z5, z6, z7], [.int s0], M) o
def mp_137_85 (L : Nat) (xs : Nat → Int32) (d : Nat) (s0 : Int32) (M : mm_M) (o : mm_E) : Prop := ∀ z1 z2 z3 z4 z5 z6 z7 : Option Value, mm_Runs L xs d 137 (85, [some (.ref 42), z1, z2, z3, z4, z5, z6, z7], [.int s0], M) o
def mp_137_100 (L : Nat) (xs : Nat → Int32) (d : Nat) (v2 : Int32) (v3 : Int32) (M : mm_M) (o : mm_E) : Prop := ∀ z1 z4 z5 z6 z7 : Option Value, mm_Runs L xs d 137 (100, [some (.ref 42), z1, some (.int v2), some (.int v3), z4, z5, z6, z7], [], M) o
def mp_137_126 (L : Nat) (xs : Nat → Int32) (d : Nat) (v2 : Int32) (M : mm_M) (o : mm_E) : Prop := ∀ z1 z3 z4 z5 z6 z7 : Option Value, mm_Runs L xs d 137 (126, [some (.ref 42), z1, some (.int v2), z3, z4, z5, z6, z7], [], M) o
def mp_137_259 (L : Nat) (xs : Nat → Int32) (d : Nat) (M : mm_M) (o : mm_E) : Prop := ∀ z0 z1 z2 z3 z4 z5 z6 z7 : Option Value, mm_Runs L xs d 137 (259, [z0, z1, z2, z3, z4, z5, z6, z7], [], M) o
def mp_137_163 (L : Nat) (xs : Nat → Int32) (d : Nat) (v2 : Int32) (v3 : Int32) (s0 : Int32) (M : mm_M) (o : mm_E) : Prop := ∀ z1 z4 z5 z6 z7 : Option Value, mm_Runs L xs d 137 (163, [some (.ref 42), z1, some (.int v2), some (.int v3), z4, z5, z6, z7], [.int s0], M) o
def mp_137_241 (L : Nat) (xs : Nat → Int32) (d : Nat) (v2 : Int32) (v3 : Int32) (v6 : Int32) (s0 : Int32) (M : mm_M) (o : mm_E) : Prop := ∀ z1 z4 z5 z7 : Option Value, mm_Runs L xs d 137 (241, [some (.ref 42), z1, some (.int v2), some (.int v3), z4, z5, some (.int v6), z7], [.int s0], M) o
set_option maxRecDepth 8000 in
set_option maxHeartbeats 4000000 in
theorem ms_137_j241 {L : Nat} {xs : Nat → Int32} {d : Nat} (hd : 11 ≤ d) {v2 : Int32} {v3 : Int32} {v6 : Int32} {s0 : Int32} {M : mm_M} {q : (((Int32 × Int32) ⊕ ((Int32) ⊕ (Unit))) ⊕ Nat) × mm_M} {o : mm_E} (h : mf_137_j241 v2 v3 v6 s0 M = some q) (hA : mm_A (mm_K2 (fun s M o => mp_137_100 L xs (d) s.1 s.2 M o) (fun r M o => mm_sm (fun r => mp_137_126 L xs (d) r M o) (fun r => mp_137_259 L xs (d) M o) r)) q o) : mp_137_241 L xs d v2 v3 v6 s0 M o := by
  unfold mf_137_j241 at h
  obtain ⟨d, rfl⟩ := mm_d1 (n := 10) hd
  intro z1 z4 z5 z7
  show mm_Runs L xs (d + 1) 137 (241, [some (.ref 42), z1, some (.int v2), some (.int v3), z4, z5, some (.int v6), z7], [.int s0], M) o
  refine mm_R_call (v := mm_wv) h hA (k2 := 27) (as := [.int s0]) (r := []) rfl (fun _ => rfl) (fun q hq o ho => ms_27 (by omega) hq ho) (fun _ M1 h => ?_)
  show mm_Runs L xs (d + 1) 137 (244, [some (.ref 42), z1, some (.int v2), some (.int v3), z4, z5, some (.int v6), z7], [], M1) o
  refine mm_Runs.seq (l := [(244, .iload_n 2, 1), (245, .iconst 1, 1)]) (S2 := (246, [some (.ref 42), z1, some (.int v2), some (.int v3), z4, z5, some (.int v6), z7], [.int (1 : Int32), .int v2], M1)) (by decide +kernel) (hO := mm_own_137) rfl ?_
  refine mm_R_call (v := mm_wi) h hA (k2 := 32) (as := [.int v2, .int (1 : Int32)]) (r := []) rfl (fun _ => rfl) (fun q hq o ho => ms_32 (by omega) hq ho) (fun r2 M3 h => ?_)
  show mm_Runs L xs (d + 1) 137 (249, [some (.ref 42), z1, some (.int v2), some (.int v3), z4, z5, some (.int v6), z7], [.int r2], M3) o
  refine mm_Runs.seq (l := [(249, .iload 6, 2), (251, .ixor, 1), (252, .istore_n 2, 1), (253, .iinc 3 1, 3), (256, .goto (-156), 3)]) (S2 := (100, [some (.ref 42), (mm_no2 z1), some (.int (r2 ^^^ v6)), some (.int (v3 + (1 : Int32))), z4, z5, some (.int v6), z7], [], M3)) (by decide +kernel) (hO := mm_own_137) rfl ?_
  cases h
  exact (show mp_137_100 L xs (d + 1) (r2 ^^^ v6) (v3 + (1 : Int32)) M3 o from hA) ((mm_no2 z1)) z4 z5 (some (.int v6)) z7
set_option maxRecDepth 8000 in
set_option maxHeartbeats 4000000 in
theorem ms_137_j163 {L : Nat} {xs : Nat → Int32} {d : Nat} (hd : 11 ≤ d) {v2 : Int32} {v3 : Int32} {s0 : Int32} {M : mm_M} {q : (((Int32 × Int32) ⊕ ((Int32) ⊕ (Unit))) ⊕ Nat) × mm_M} {o : mm_E} (h : mf_137_j163 v2 v3 s0 M = some q) (hA : mm_A (mm_K2 (fun s M o => mp_137_100 L xs (d) s.1 s.2 M o) (fun r M o => mm_sm (fun r => mp_137_126 L xs (d) r M o) (fun r => mp_137_259 L xs (d) M o) r)) q o) : mp_137_163 L xs d v2 v3 s0 M o := by
  unfold mf_137_j163 at h
  obtain ⟨d, rfl⟩ := mm_d1 (n := 10) hd
  intro z1 z4 z5 z6 z7
  show mm_Runs L xs (d + 1) 137 (163, [some (.ref 42), z1, some (.int v2), some (.int v3), z4, z5, z6, z7], [.int s0], M) o
  refine mm_R_call (v := mm_wv) h hA (k2 := 27) (as := [.int s0]) (r := []) rfl (fun _ => rfl) (fun q hq o ho => ms_27 (by omega) hq ho) (fun _ M1 h => ?_)
  show mm_Runs L xs (d + 1) 137 (166, [some (.ref 42), z1, some (.int v2), some (.int v3), z4, z5, z6, z7], [], M1) o
  refine mm_Runs.seq (l := [(166, .aload_n 0, 1), (167, .getfield 36, 3), (170, .bipush 32, 2)]) (S2 := (172, [some (.ref 42), z1, some (.int v2), some (.int v3), z4, z5, z6, z7], [.int (32 : Int32), .ref 1], M1)) (by decide +kernel) (hO := mm_own_137) rfl ?_
  refine mm_R_call (v := mm_wl) h hA (k2 := 46) (as := [.ref 1, .int (32 : Int32)]) (r := []) rfl (fun _ => rfl) (fun q hq o ho => ms_46 (by omega) hq ho) (fun r2 M3 h => ?_)
  show mm_Runs L xs (d + 1) 137 (175, [some (.ref 42), z1, some (.int v2), some (.int v3), z4, z5, z6, z7], [.long r2], M3) o
  refine mm_Runs.seq (l := [(175, .l2i, 1), (176, .istore 6, 2), (178, .aload_n 0, 1), (179, .getfield 40, 3), (182, .dup, 1), (183, .getfield 78, 3), (186, .iconst 1, 1), (187, .iadd, 1), (188, .putfield 78, 3), (191, .aload_n 0, 1)]) (S2 := (192, [some (.ref 42), z1, some (.int v2), some (.int v3), z4, (mm_no2 z5), some (.int r2.toInt32), z7], [.ref 42], (mm_pi M3 3 6 ((M3.1 3 6) + (1 : Int32))))) (by decide +kernel) (hO := mm_own_137) rfl ?_
  refine mm_R_call (v := mm_wv) h hA (k2 := 138) (as := [.ref 42]) (r := []) rfl (fun _ => rfl) (fun q hq o ho => ms_138 (by omega) hq ho) (fun _ M4 h => ?_)
  show mm_Runs L xs (d + 1) 137 (195, [some (.ref 42), z1, some (.int v2), some (.int v3), z4, (mm_no2 z5), some (.int r2.toInt32), z7], [], M4) o
  refine mm_Runs.seq (l := [(195, .aload_n 0, 1), (196, .getfield 40, 3), (199, .getfield 87, 3), (202, .istore 7, 2), (204, .aload_n 0, 1)]) (S2 := (205, [some (.ref 42), z1, some (.int v2), some (.int v3), z4, (mm_no2 z5), some (.int r2.toInt32), some (.int (M4.1 3 1))], [.ref 42], M4)) (by decide +kernel) (hO := mm_own_137) rfl ?_
  refine mm_R_call (v := mm_wv) h hA (k2 := 145) (as := [.ref 42]) (r := []) rfl (fun _ => rfl) (fun q hq o ho => ms_145 (by omega) hq ho) (fun _ M5 h => ?_)
  show mm_Runs L xs (d + 1) 137 (208, [some (.ref 42), z1, some (.int v2), some (.int v3), z4, (mm_no2 z5), some (.int r2.toInt32), some (.int (M4.1 3 1))], [], M5) o
  refine mm_Runs.seq (l := [(208, .aload_n 0, 1)]) (S2 := (209, [some (.ref 42), z1, some (.int v2), some (.int v3), z4, (mm_no2 z5), some (.int r2.toInt32), some (.int (M4.1 3 1))], [.ref 42], M5)) (by decide +kernel) (hO := mm_own_137) rfl ?_
  refine mm_R_call (v := mm_wv) h hA (k2 := 146) (as := [.ref 42]) (r := []) rfl (fun _ => rfl) (fun q hq o ho => ms_146 (by omega) hq ho) (fun _ M6 h => ?_)
  show mm_Runs L xs (d + 1) 137 (212, [some (.ref 42), z1, some (.int v2), some (.int v3), z4, (mm_no2 z5), some (.int r2.toInt32), some (.int (M4.1 3 1))], [], M6) o
  refine mm_Runs.seq (l := [(212, .aload_n 0, 1), (213, .getfield 40, 3), (216, .getfield 96, 3), (219, .iload 7, 2), (221, .aload_n 0, 1), (222, .getfield 40, 3), (225, .getfield 87, 3)]) (S2 := (228, [some (.ref 42), z1, some (.int v2), some (.int v3), z4, (mm_no2 z5), some (.int r2.toInt32), some (.int (M4.1 3 1))], [.int (M6.1 3 1), .int (M4.1 3 1), .ref 4], M6)) (by decide +kernel) (hO := mm_own_137) rfl ?_
  refine mm_R_call (v := mm_wi) h hA (k2 := 29) (as := [.ref 4, .int (M4.1 3 1), .int (M6.1 3 1)]) (r := []) rfl (fun _ => rfl) (fun q hq o ho => ms_29 rfl (by omega) hq ho) (fun r7 M8 h => ?_)
  show mm_Runs L xs (d + 1) 137 (231, [some (.ref 42), z1, some (.int v2), some (.int v3), z4, (mm_no2 z5), some (.int r2.toInt32), some (.int (M4.1 3 1))], [.int r7], M8) o
  refine mm_Runs.seq (l := [(231, .iload 6, 2)]) (S2 := (233, [some (.ref 42), z1, some (.int v2), some (.int v3), z4, (mm_no2 z5), some (.int r2.toInt32), some (.int (M4.1 3 1))], [.int r2.toInt32, .int r7], M8)) (by decide +kernel) (hO := mm_own_137) rfl ?_
  refine mm_R_ieq (t := 240) rfl rfl rfl (fun hc => ?_) (fun hc => ?_)
  · replace h := mm_ip hc h
    refine mm_Runs.seq (l := [(240, .iconst 0, 1)]) (S2 := (241, [some (.ref 42), z1, some (.int v2), some (.int v3), z4, (mm_no2 z5), some (.int r2.toInt32), some (.int (M4.1 3 1))], [.int (0 : Int32)], M8)) (by decide +kernel) (hO := mm_own_137) rfl ?_
    exact (ms_137_j241 hd h hA : mp_137_241 L xs (d + 1) v2 v3 r2.toInt32 (0 : Int32) M8 o) z1 z4 ((mm_no2 z5)) (some (.int (M4.1 3 1)))
  · replace h := mm_iq hc h
    refine mm_Runs.seq (l := [(236, .iconst 1, 1), (237, .goto 4, 3)]) (S2 := (241, [some (.ref 42), z1, some (.int v2), some (.int v3), z4, (mm_no2 z5), some (.int r2.toInt32), some (.int (M4.1 3 1))], [.int (1 : Int32)], M8)) (by decide +kernel) (hO := mm_own_137) rfl ?_
    exact (ms_137_j241 hd h hA : mp_137_241 L xs (d + 1) v2 v3 r2.toInt32 (1 : Int32) M8 o) z1 z4 ((mm_no2 z5)) (some (.int (M4.1 3 1)))
set_option maxRecDepth 8000 in
set_option maxHeartbeats 4000000 in
theorem ms_137_b100 {L : Nat} {xs : Nat → Int32} {d : Nat} (hd : 11 ≤ d) {v2 : Int32} {v3 : Int32} {M : mm_M} {q : (((Int32 × Int32) ⊕ ((Int32) ⊕ (Unit))) ⊕ Nat) × mm_M} {o : mm_E} (h : mf_137_b100 v2 v3 M = some q) (hA : mm_A (mm_K2 (fun s M o => mp_137_100 L xs (d) s.1 s.2 M o) (fun r M o => mm_sm (fun r => mp_137_126 L xs (d) r M o) (fun r => mp_137_259 L xs (d) M o) r)) q o) : mp_137_100 L xs d v2 v3 M o := by
  unfold mf_137_b100 at h
  obtain ⟨d, rfl⟩ := mm_d1 (n := 10) hd
  intro z1 z4 z5 z6 z7
  show mm_Runs L xs (d + 1) 137 (100, [some (.ref 42), z1, some (.int v2), some (.int v3), z4, z5, z6, z7], [], M) o
  refine mm_Runs.seq (l := [(100, .iload_n 3, 1), (101, .ldc 69, 2)]) (S2 := (103, [some (.ref 42), z1, some (.int v2), some (.int v3), z4, z5, z6, z7], [.int (1000000 : Int32), .int v3], M)) (by decide +kernel) (hO := mm_own_137) rfl ?_
  refine mm_R_ige (t := 259) rfl rfl rfl (fun hc => ?_) (fun hc => ?_)
  · replace h := mm_ip hc h
    refine mm_Runs.seq (l := [(106, .aload_n 0, 1), (107, .getfield 36, 3), (110, .bipush 48, 2)]) (S2 := (112, [some (.ref 42), z1, some (.int v2), some (.int v3), z4, z5, z6, z7], [.int (48 : Int32), .ref 1], M)) (by decide +kernel) (hO := mm_own_137) rfl ?_
    refine mm_R_call (v := mm_wl) h hA (k2 := 46) (as := [.ref 1, .int (48 : Int32)]) (r := []) rfl (fun _ => rfl) (fun q hq o ho => ms_46 (by omega) hq ho) (fun r1 M2 h => ?_)
    show mm_Runs L xs (d + 1) 137 (115, [some (.ref 42), z1, some (.int v2), some (.int v3), z4, z5, z6, z7], [.long r1], M2) o
    refine mm_Runs.seq (l := [(115, .lstore 4, 2), (117, .lload 4, 2), (119, .ldc2_w 74, 3)]) (S2 := (122, [some (.ref 42), z1, some (.int v2), some (.int v3), some (.long r1), none, z6, z7], [.long (25779555029136 : Int64), .long r1], M2)) (by decide +kernel) (hO := mm_own_137) rfl ?_
    refine mm_R_lne (t := 149) rfl rfl rfl rfl (fun hc => ?_) (fun hc => ?_)
    · replace h := mm_ip hc h
      cases h
      exact (show mp_137_126 L xs (d + 1) v2 M2 o from hA) z1 (some (.int v3)) (some (.long r1)) none z6 z7
    · replace h := mm_iq hc h
      refine mm_Runs.seq (l := [(149, .lload 4, 2), (151, .ldc2_w 76, 3)]) (S2 := (154, [some (.ref 42), z1, some (.int v2), some (.int v3), some (.long r1), none, z6, z7], [.long (54156738319193 : Int64), .long r1], M2)) (by decide +kernel) (hO := mm_own_137) rfl ?_
      refine mm_R_leq (t := 162) rfl rfl rfl rfl (fun hc => ?_) (fun hc => ?_)
      · replace h := mm_ip hc h
        refine mm_Runs.seq (l := [(162, .iconst 0, 1)]) (S2 := (163, [some (.ref 42), z1, some (.int v2), some (.int v3), some (.long r1), none, z6, z7], [.int (0 : Int32)], M2)) (by decide +kernel) (hO := mm_own_137) rfl ?_
        exact (ms_137_j163 hd h hA : mp_137_163 L xs (d + 1) v2 v3 (0 : Int32) M2 o) z1 (some (.long r1)) none z6 z7
      · replace h := mm_iq hc h
        refine mm_Runs.seq (l := [(158, .iconst 1, 1), (159, .goto 4, 3)]) (S2 := (163, [some (.ref 42), z1, some (.int v2), some (.int v3), some (.long r1), none, z6, z7], [.int (1 : Int32)], M2)) (by decide +kernel) (hO := mm_own_137) rfl ?_
        exact (ms_137_j163 hd h hA : mp_137_163 L xs (d + 1) v2 v3 (1 : Int32) M2 o) z1 (some (.long r1)) none z6 z7
  · replace h := mm_iq hc h
    cases h
    exact (show mp_137_259 L xs (d + 1) M o from hA) (some (.ref 42)) z1 (some (.int v2)) (some (.int v3)) z4 z5 z6 z7
theorem ms_137_L100 {L : Nat} {xs : Nat → Int32} {d : Nat} (hd : 11 ≤ d) {v2 : Int32} {v3 : Int32} {β : Type} {K : β → mm_M → mm_E → Prop} {F : ((Int32) ⊕ (Unit)) → mm_M → mm_O β} {M : mm_M} {q : (β ⊕ Nat) × mm_M} {o : mm_E} (h : mm_B (mf_137_L100 (v2, v3) M) F = some q) (hA : mm_A K q o) (hx : ∀ (r : ((Int32) ⊕ (Unit))) (M2 : mm_M), F r M2 = some q → (fun r M o => mm_sm (fun r => mp_137_126 L xs (d) r M o) (fun r => mp_137_259 L xs (d) M o) r) r M2 o) : mp_137_100 L xs d v2 v3 M o := by
  unfold mf_137_L100 at h
  exact mm_R_loop (step := (fun s M => mf_137_b100 s.1 s.2 M)) (s := (v2, v3)) (M := M) (P := (fun s M o => mp_137_100 L xs (d) s.1 s.2 M o)) (X := (fun r M o => mm_sm (fun r => mp_137_126 L xs (d) r M o) (fun r => mp_137_259 L xs (d) M o) r)) h hA (fun s M q hq hA => ms_137_b100 (v2 := s.1) (v3 := s.2) (M := M) (q := q) hd hq hA) hx
def mp_137_145 (L : Nat) (xs : Nat → Int32) (d : Nat) (s0 : Int32) (M : mm_M) (o : mm_E) : Prop := ∀ z0 z1 z2 z3 z4 z5 z6 z7 : Option Value, mm_Runs L xs d 137 (145, [z0, z1, z2, z3, z4, z5, z6, z7], [.int s0], M) o
set_option maxRecDepth 8000 in
set_option maxHeartbeats 4000000 in
theorem ms_137_j145 {L : Nat} {xs : Nat → Int32} {d : Nat} (hd : 11 ≤ d) {s0 : Int32} {M : mm_M} {q : (Unit ⊕ Nat) × mm_M} {o : mm_E} (h : mf_137_j145 s0 M = some q) (hA : mm_A (mm_Kr mm_wv) q o) : mp_137_145 L xs d s0 M o := by
  unfold mf_137_j145 at h
  obtain ⟨d, rfl⟩ := mm_d1 (n := 10) hd
  intro z0 z1 z2 z3 z4 z5 z6 z7
  show mm_Runs L xs (d + 1) 137 (145, [z0, z1, z2, z3, z4, z5, z6, z7], [.int s0], M) o
  refine mm_R_call (v := mm_wv) h hA (k2 := 27) (as := [.int s0]) (r := []) rfl (fun _ => rfl) (fun q hq o ho => ms_27 (by omega) hq ho) (fun _ M1 h => ?_)
  show mm_Runs L xs (d + 1) 137 (148, [z0, z1, z2, z3, z4, z5, z6, z7], [], M1) o
  cases h
  exact mm_R_retv rfl rfl hA
set_option maxRecDepth 8000 in
set_option maxHeartbeats 4000000 in
theorem ms_137_j126 {L : Nat} {xs : Nat → Int32} {d : Nat} (hd : 11 ≤ d) {v2 : Int32} {M : mm_M} {q : (Unit ⊕ Nat) × mm_M} {o : mm_E} (h : mf_137_j126 v2 M = some q) (hA : mm_A (mm_Kr mm_wv) q o) : mp_137_126 L xs d v2 M o := by
  unfold mf_137_j126 at h
  obtain ⟨d, rfl⟩ := mm_d1 (n := 10) hd
  intro z1 z3 z4 z5 z6 z7
  show mm_Runs L xs (d + 1) 137 (126, [some (.ref 42), z1, some (.int v2), z3, z4, z5, z6, z7], [], M) o
  refine mm_Runs.seq (l := [(126, .aload_n 0, 1), (127, .getfield 36, 3), (130, .bipush 32, 2)]) (S2 := (132, [some (.ref 42), z1, some (.int v2), z3, z4, z5, z6, z7], [.int (32 : Int32), .ref 1], M)) (by decide +kernel) (hO := mm_own_137) rfl ?_
  refine mm_R_call (v := mm_wl) h hA (k2 := 46) (as := [.ref 1, .int (32 : Int32)]) (r := []) rfl (fun _ => rfl) (fun q hq o ho => ms_46 (by omega) hq ho) (fun r1 M2 h => ?_)
  show mm_Runs L xs (d + 1) 137 (135, [some (.ref 42), z1, some (.int v2), z3, z4, z5, z6, z7], [.long r1], M2) o
  refine mm_Runs.seq (l := [(135, .l2i, 1), (136, .iload_n 2, 1)]) (S2 := (137, [some (.ref 42), z1, some (.int v2), z3, z4, z5, z6, z7], [.int v2, .int r1.toInt32], M2)) (by decide +kernel) (hO := mm_own_137) rfl ?_
  refine mm_R_ieq (t := 144) rfl rfl rfl (fun hc => ?_) (fun hc => ?_)
  · replace h := mm_ip hc h
    refine mm_Runs.seq (l := [(144, .iconst 0, 1)]) (S2 := (145, [some (.ref 42), z1, some (.int v2), z3, z4, z5, z6, z7], [.int (0 : Int32)], M2)) (by decide +kernel) (hO := mm_own_137) rfl ?_
    exact (ms_137_j145 hd h hA : mp_137_145 L xs (d + 1) (0 : Int32) M2 o) (some (.ref 42)) z1 (some (.int v2)) z3 z4 z5 z6 z7
  · replace h := mm_iq hc h
    refine mm_Runs.seq (l := [(140, .iconst 1, 1), (141, .goto 4, 3)]) (S2 := (145, [some (.ref 42), z1, some (.int v2), z3, z4, z5, z6, z7], [.int (1 : Int32)], M2)) (by decide +kernel) (hO := mm_own_137) rfl ?_
    exact (ms_137_j145 hd h hA : mp_137_145 L xs (d + 1) (1 : Int32) M2 o) (some (.ref 42)) z1 (some (.int v2)) z3 z4 z5 z6 z7
set_option maxRecDepth 8000 in
set_option maxHeartbeats 4000000 in
theorem ms_137_j85 {L : Nat} {xs : Nat → Int32} {d : Nat} (hd : 11 ≤ d) {s0 : Int32} {M : mm_M} {q : (Unit ⊕ Nat) × mm_M} {o : mm_E} (h : mf_137_j85 s0 M = some q) (hA : mm_A (mm_Kr mm_wv) q o) : mp_137_85 L xs d s0 M o := by
  unfold mf_137_j85 at h
  obtain ⟨d, rfl⟩ := mm_d1 (n := 10) hd
  intro z1 z2 z3 z4 z5 z6 z7
  show mm_Runs L xs (d + 1) 137 (85, [some (.ref 42), z1, z2, z3, z4, z5, z6, z7], [.int s0], M) o
  refine mm_R_call (v := mm_wv) h hA (k2 := 27) (as := [.int s0]) (r := []) rfl (fun _ => rfl) (fun q hq o ho => ms_27 (by omega) hq ho) (fun _ M1 h => ?_)
  show mm_Runs L xs (d + 1) 137 (88, [some (.ref 42), z1, z2, z3, z4, z5, z6, z7], [], M1) o
  refine mm_Runs.seq (l := [(88, .aload_n 0, 1), (89, .getfield 36, 3), (92, .iconst 1, 1), (93, .putfield 65, 3), (96, .iconst 0, 1), (97, .istore_n 2, 1), (98, .iconst 0, 1), (99, .istore_n 3, 1)]) (S2 := (100, [some (.ref 42), (mm_no2 z1), some (.int (0 : Int32)), some (.int (0 : Int32)), z4, z5, z6, z7], [], (mm_pi M1 1 4 (1 : Int32)))) (by decide +kernel) (hO := mm_own_137) rfl ?_
  have hp : mp_137_100 L xs (d + 1) (0 : Int32) (0 : Int32) (mm_pi M1 1 4 (1 : Int32)) o := by
    refine ms_137_L100 hd h hA (fun r3 M2 h => ?_)
    rcases r3 with r3 | r3
    · dsimp only [mm_sm] at h
      intro y4 y5 y6 y7 y8 y9
      show mm_Runs L xs (d + 1) 137 (126, [some (.ref 42), y4, some (.int r3), y5, y6, y7, y8, y9], [], M2) o
      exact (ms_137_j126 hd h hA : mp_137_126 L xs (d + 1) r3 M2 o) y4 y5 y6 y7 y8 y9
    · dsimp only [mm_sm] at h
      intro y10 y11 y12 y13 y14 y15 y16 y17
      show mm_Runs L xs (d + 1) 137 (259, [y10, y11, y12, y13, y14, y15, y16, y17], [], M2) o
      cases h
      exact mm_R_retv rfl rfl hA
  exact hp ((mm_no2 z1)) z4 z5 z6 z7
set_option maxRecDepth 8000 in
set_option maxHeartbeats 4000000 in
theorem ms_137_j57 {L : Nat} {xs : Nat → Int32} {d : Nat} (hd : 11 ≤ d) {s0 : Int32} {M : mm_M} {q : (Unit ⊕ Nat) × mm_M} {o : mm_E} (h : mf_137_j57 s0 M = some q) (hA : mm_A (mm_Kr mm_wv) q o) : mp_137_57 L xs d s0 M o := by
  unfold mf_137_j57 at h
  obtain ⟨d, rfl⟩ := mm_d1 (n := 10) hd
  intro z1 z2 z3 z4 z5 z6 z7
  show mm_Runs L xs (d + 1) 137 (57, [some (.ref 42), z1, z2, z3, z4, z5, z6, z7], [.int s0], M) o
  refine mm_R_call (v := mm_wv) h hA (k2 := 27) (as := [.int s0]) (r := []) rfl (fun _ => rfl) (fun q hq o ho => ms_27 (by omega) hq ho) (fun _ M1 h => ?_)
  show mm_Runs L xs (d + 1) 137 (60, [some (.ref 42), z1, z2, z3, z4, z5, z6, z7], [], M1) o
  refine mm_Runs.seq (l := [(60, .aload_n 0, 1), (61, .getfield 36, 3)]) (S2 := (64, [some (.ref 42), z1, z2, z3, z4, z5, z6, z7], [.ref 1], M1)) (by decide +kernel) (hO := mm_own_137) rfl ?_
  refine mm_R_call (v := mm_wi) h hA (k2 := 44) (as := [.ref 1]) (r := []) rfl (fun _ => rfl) (fun q hq o ho => ms_44 (by omega) hq ho) (fun r2 M3 h => ?_)
  show mm_Runs L xs (d + 1) 137 (67, [some (.ref 42), z1, z2, z3, z4, z5, z6, z7], [.int r2], M3) o
  refine mm_Runs.seq (l := [(67, .istore_n 1, 1), (68, .iload_n 1, 1), (69, .bipush 49, 2)]) (S2 := (71, [some (.ref 42), some (.int r2), z2, z3, z4, z5, z6, z7], [.int (49 : Int32), .int r2], M3)) (by decide +kernel) (hO := mm_own_137) rfl ?_
  refine mm_R_ilt (t := 80) rfl rfl rfl (fun hc => ?_) (fun hc => ?_)
  · replace h := mm_ip hc h
    refine mm_Runs.seq (l := [(80, .iconst 1, 1), (81, .goto 4, 3)]) (S2 := (85, [some (.ref 42), some (.int r2), z2, z3, z4, z5, z6, z7], [.int (1 : Int32)], M3)) (by decide +kernel) (hO := mm_own_137) rfl ?_
    exact (ms_137_j85 hd h hA : mp_137_85 L xs (d + 1) (1 : Int32) M3 o) (some (.int r2)) z2 z3 z4 z5 z6 z7
  · replace h := mm_iq hc h
    refine mm_Runs.seq (l := [(74, .iload_n 1, 1), (75, .bipush 57, 2)]) (S2 := (77, [some (.ref 42), some (.int r2), z2, z3, z4, z5, z6, z7], [.int (57 : Int32), .int r2], M3)) (by decide +kernel) (hO := mm_own_137) rfl ?_
    refine mm_R_ile (t := 84) rfl rfl rfl (fun hc => ?_) (fun hc => ?_)
    · replace h := mm_ip hc h
      refine mm_Runs.seq (l := [(80, .iconst 1, 1), (81, .goto 4, 3)]) (S2 := (85, [some (.ref 42), some (.int r2), z2, z3, z4, z5, z6, z7], [.int (1 : Int32)], M3)) (by decide +kernel) (hO := mm_own_137) rfl ?_
      exact (ms_137_j85 hd h hA : mp_137_85 L xs (d + 1) (1 : Int32) M3 o) (some (.int r2)) z2 z3 z4 z5 z6 z7
    · replace h := mm_iq hc h
      refine mm_Runs.seq (l := [(84, .iconst 0, 1)]) (S2 := (85, [some (.ref 42), some (.int r2), z2, z3, z4, z5, z6, z7], [.int (0 : Int32)], M3)) (by decide +kernel) (hO := mm_own_137) rfl ?_
      exact (ms_137_j85 hd h hA : mp_137_85 L xs (d + 1) (0 : Int32) M3 o) (some (.int r2)) z2 z3 z4 z5 z6 z7
set_option maxRecDepth 8000 in
set_option maxHeartbeats 4000000 in
theorem ms_137_j37 {L : Nat} {xs : Nat → Int32} {d : Nat} (hd : 11 ≤ d) {s0 : Int32} {M : mm_M} {q : (Unit ⊕ Nat) × mm_M} {o : mm_E} (h : mf_137_j37 s0 M = some q) (hA : mm_A (mm_Kr mm_wv) q o) : mp_137_37 L xs d s0 M o := by
  unfold mf_137_j37 at h
  obtain ⟨d, rfl⟩ := mm_d1 (n := 10) hd
  intro z1 z2 z3 z4 z5 z6 z7
  show mm_Runs L xs (d + 1) 137 (37, [some (.ref 42), z1, z2, z3, z4, z5, z6, z7], [.int s0], M) o
  refine mm_R_call (v := mm_wv) h hA (k2 := 27) (as := [.int s0]) (r := []) rfl (fun _ => rfl) (fun q hq o ho => ms_27 (by omega) hq ho) (fun _ M1 h => ?_)
  show mm_Runs L xs (d + 1) 137 (40, [some (.ref 42), z1, z2, z3, z4, z5, z6, z7], [], M1) o
  refine mm_Runs.seq (l := [(40, .aload_n 0, 1), (41, .getfield 36, 3)]) (S2 := (44, [some (.ref 42), z1, z2, z3, z4, z5, z6, z7], [.ref 1], M1)) (by decide +kernel) (hO := mm_own_137) rfl ?_
  refine mm_R_call (v := mm_wi) h hA (k2 := 44) (as := [.ref 1]) (r := []) rfl (fun _ => rfl) (fun q hq o ho => ms_44 (by omega) hq ho) (fun r2 M3 h => ?_)
  show mm_Runs L xs (d + 1) 137 (47, [some (.ref 42), z1, z2, z3, z4, z5, z6, z7], [.int r2], M3) o
  refine mm_Runs.seq (l := [(47, .bipush 104, 2)]) (S2 := (49, [some (.ref 42), z1, z2, z3, z4, z5, z6, z7], [.int (104 : Int32), .int r2], M3)) (by decide +kernel) (hO := mm_own_137) rfl ?_
  refine mm_R_ieq (t := 56) rfl rfl rfl (fun hc => ?_) (fun hc => ?_)
  · replace h := mm_ip hc h
    refine mm_Runs.seq (l := [(56, .iconst 0, 1)]) (S2 := (57, [some (.ref 42), z1, z2, z3, z4, z5, z6, z7], [.int (0 : Int32)], M3)) (by decide +kernel) (hO := mm_own_137) rfl ?_
    exact (ms_137_j57 hd h hA : mp_137_57 L xs (d + 1) (0 : Int32) M3 o) z1 z2 z3 z4 z5 z6 z7
  · replace h := mm_iq hc h
    refine mm_Runs.seq (l := [(52, .iconst 1, 1), (53, .goto 4, 3)]) (S2 := (57, [some (.ref 42), z1, z2, z3, z4, z5, z6, z7], [.int (1 : Int32)], M3)) (by decide +kernel) (hO := mm_own_137) rfl ?_
    exact (ms_137_j57 hd h hA : mp_137_57 L xs (d + 1) (1 : Int32) M3 o) z1 z2 z3 z4 z5 z6 z7
set_option maxRecDepth 8000 in
set_option maxHeartbeats 4000000 in
theorem ms_137_j17 {L : Nat} {xs : Nat → Int32} {d : Nat} (hd : 11 ≤ d) {s0 : Int32} {M : mm_M} {q : (Unit ⊕ Nat) × mm_M} {o : mm_E} (h : mf_137_j17 s0 M = some q) (hA : mm_A (mm_Kr mm_wv) q o) : mp_137_17 L xs d s0 M o := by
  unfold mf_137_j17 at h
  obtain ⟨d, rfl⟩ := mm_d1 (n := 10) hd
  intro z1 z2 z3 z4 z5 z6 z7
  show mm_Runs L xs (d + 1) 137 (17, [some (.ref 42), z1, z2, z3, z4, z5, z6, z7], [.int s0], M) o
  refine mm_R_call (v := mm_wv) h hA (k2 := 27) (as := [.int s0]) (r := []) rfl (fun _ => rfl) (fun q hq o ho => ms_27 (by omega) hq ho) (fun _ M1 h => ?_)
  show mm_Runs L xs (d + 1) 137 (20, [some (.ref 42), z1, z2, z3, z4, z5, z6, z7], [], M1) o
  refine mm_Runs.seq (l := [(20, .aload_n 0, 1), (21, .getfield 36, 3)]) (S2 := (24, [some (.ref 42), z1, z2, z3, z4, z5, z6, z7], [.ref 1], M1)) (by decide +kernel) (hO := mm_own_137) rfl ?_
  refine mm_R_call (v := mm_wi) h hA (k2 := 44) (as := [.ref 1]) (r := []) rfl (fun _ => rfl) (fun q hq o ho => ms_44 (by omega) hq ho) (fun r2 M3 h => ?_)
  show mm_Runs L xs (d + 1) 137 (27, [some (.ref 42), z1, z2, z3, z4, z5, z6, z7], [.int r2], M3) o
  refine mm_Runs.seq (l := [(27, .bipush 90, 2)]) (S2 := (29, [some (.ref 42), z1, z2, z3, z4, z5, z6, z7], [.int (90 : Int32), .int r2], M3)) (by decide +kernel) (hO := mm_own_137) rfl ?_
  refine mm_R_ieq (t := 36) rfl rfl rfl (fun hc => ?_) (fun hc => ?_)
  · replace h := mm_ip hc h
    refine mm_Runs.seq (l := [(36, .iconst 0, 1)]) (S2 := (37, [some (.ref 42), z1, z2, z3, z4, z5, z6, z7], [.int (0 : Int32)], M3)) (by decide +kernel) (hO := mm_own_137) rfl ?_
    exact (ms_137_j37 hd h hA : mp_137_37 L xs (d + 1) (0 : Int32) M3 o) z1 z2 z3 z4 z5 z6 z7
  · replace h := mm_iq hc h
    refine mm_Runs.seq (l := [(32, .iconst 1, 1), (33, .goto 4, 3)]) (S2 := (37, [some (.ref 42), z1, z2, z3, z4, z5, z6, z7], [.int (1 : Int32)], M3)) (by decide +kernel) (hO := mm_own_137) rfl ?_
    exact (ms_137_j37 hd h hA : mp_137_37 L xs (d + 1) (1 : Int32) M3 o) z1 z2 z3 z4 z5 z6 z7
set_option maxRecDepth 8000 in
set_option maxHeartbeats 4000000 in
theorem ms_137 {L : Nat} {xs : Nat → Int32} {d : Nat} (hd : 11 ≤ d) {M : mm_M} {q : (Unit ⊕ Nat) × mm_M} {o : mm_E} (h : mf_137 M = some q) (hA : mm_A (mm_Kr mm_wv) q o) : mm_Runs L xs d 137 (0, mm_ent (mm_ml 137) [.ref 42], [], M) o := by
  unfold mf_137 at h
  obtain ⟨d, rfl⟩ := mm_d1 (n := 10) hd
  show mm_Runs L xs (d + 1) 137 (0, [some (.ref 42), none, none, none, none, none, none, none], [], M) o
  refine mm_Runs.seq (l := [(0, .aload_n 0, 1), (1, .getfield 36, 3)]) (S2 := (4, [some (.ref 42), none, none, none, none, none, none, none], [.ref 1], M)) (by decide +kernel) (hO := mm_own_137) rfl ?_
  refine mm_R_call (v := mm_wi) h hA (k2 := 44) (as := [.ref 1]) (r := []) rfl (fun _ => rfl) (fun q hq o ho => ms_44 (by omega) hq ho) (fun r1 M2 h => ?_)
  show mm_Runs L xs (d + 1) 137 (7, [some (.ref 42), none, none, none, none, none, none, none], [.int r1], M2) o
  refine mm_Runs.seq (l := [(7, .bipush 66, 2)]) (S2 := (9, [some (.ref 42), none, none, none, none, none, none, none], [.int (66 : Int32), .int r1], M2)) (by decide +kernel) (hO := mm_own_137) rfl ?_
  refine mm_R_ieq (t := 16) rfl rfl rfl (fun hc => ?_) (fun hc => ?_)
  · replace h := mm_ip hc h
    refine mm_Runs.seq (l := [(16, .iconst 0, 1)]) (S2 := (17, [some (.ref 42), none, none, none, none, none, none, none], [.int (0 : Int32)], M2)) (by decide +kernel) (hO := mm_own_137) rfl ?_
    exact (ms_137_j17 hd h hA : mp_137_17 L xs (d + 1) (0 : Int32) M2 o) none none none none none none none
  · replace h := mm_iq hc h
    refine mm_Runs.seq (l := [(12, .iconst 1, 1), (13, .goto 4, 3)]) (S2 := (17, [some (.ref 42), none, none, none, none, none, none, none], [.int (1 : Int32)], M2)) (by decide +kernel) (hO := mm_own_137) rfl ?_
    exact (ms_137_j17 hd h hA : mp_137_17 L xs (d + 1) (1 : Int32) M2 o) none none none none none none none
-- 160: PlainPacks$Chances.readHead()V (depth 9)
theorem mm_own_160 : mm_own 160 = 11 := rfl
def mp_160_20 (L : Nat) (xs : Nat → Int32) (d : Nat) (v1 : Int32) (s0 : Int32) (M : mm_M) (o : mm_E) : Prop := mm_Runs L xs d 160 (20, [some (.ref 80), some (.int v1)], [.int s0], M) o
def mp_160_67 (L : Nat) (xs : Nat → Int32) (d : Nat) (s0 : Int32) (M : mm_M) (o : mm_E) : Prop := ∀ z1 : Option Value, mm_Runs L xs d 160 (67, [some (.ref 80), z1], [.int s0], M) o
def mp_160_119 (L : Nat) (xs : Nat → Int32) (d : Nat) (s0 : Int32) (M : mm_M) (o : mm_E) : Prop := ∀ z0 z1 : Option Value, mm_Runs L xs d 160 (119, [z0, z1], [.int s0], M) o
set_option maxRecDepth 8000 in
set_option maxHeartbeats 4000000 in
theorem ms_160_j119 {L : Nat} {xs : Nat → Int32} {d : Nat} (hd : 9 ≤ d) {s0 : Int32} {M : mm_M} {q : (Unit ⊕ Nat) × mm_M} {o : mm_E} (h : mf_160_j119 s0 M = some q) (hA : mm_A (mm_Kr mm_wv) q o) : mp_160_119 L xs d s0 M o := by
  unfold mf_160_j119 at h
  obtain ⟨d, rfl⟩ := mm_d1 (n := 8) hd
  intro z0 z1
  show mm_Runs L xs (d + 1) 160 (119, [z0, z1], [.int s0], M) o
  refine mm_R_call (v := mm_wv) h hA (k2 := 27) (as := [.int s0]) (r := []) rfl (fun _ => rfl) (fun q hq o ho => ms_27 (by omega) hq ho) (fun _ M1 h => ?_)
  show mm_Runs L xs (d + 1) 160 (122, [z0, z1], [], M1) o
  cases h
  exact mm_R_retv rfl rfl hA
set_option maxRecDepth 8000 in
set_option maxHeartbeats 4000000 in
theorem ms_160_j67 {L : Nat} {xs : Nat → Int32} {d : Nat} (hd : 9 ≤ d) {s0 : Int32} {M : mm_M} {q : (Unit ⊕ Nat) × mm_M} {o : mm_E} (h : mf_160_j67 s0 M = some q) (hA : mm_A (mm_Kr mm_wv) q o) : mp_160_67 L xs d s0 M o := by
  unfold mf_160_j67 at h
  obtain ⟨d, rfl⟩ := mm_d1 (n := 8) hd
  intro z1
  show mm_Runs L xs (d + 1) 160 (67, [some (.ref 80), z1], [.int s0], M) o
  refine mm_R_call (v := mm_wv) h hA (k2 := 27) (as := [.int s0]) (r := []) rfl (fun _ => rfl) (fun q hq o ho => ms_27 (by omega) hq ho) (fun _ M1 h => ?_)
  show mm_Runs L xs (d + 1) 160 (70, [some (.ref 80), z1], [], M1) o
  refine mm_Runs.seq (l := [(70, .aload_n 0, 1), (71, .getfield 15, 3), (74, .iconst 4, 1)]) (S2 := (75, [some (.ref 80), z1], [.int (4 : Int32), .ref 1], M1)) (by decide +kernel) (hO := mm_own_160) rfl ?_
  refine mm_R_call (v := mm_wl) h hA (k2 := 47) (as := [.ref 1, .int (4 : Int32)]) (r := []) rfl (fun _ => rfl) (fun q hq o ho => ms_47 (by omega) hq ho) (fun r2 M3 h => ?_)
  show mm_Runs L xs (d + 1) 160 (78, [some (.ref 80), z1], [.long r2], M3) o
  refine mm_Runs.seq (l := [(78, .pop2, 1), (79, .aload_n 0, 1), (80, .aload_n 0, 1), (81, .getfield 15, 3), (84, .bipush 8, 2)]) (S2 := (86, [some (.ref 80), z1], [.int (8 : Int32), .ref 1, .ref 80], M3)) (by decide +kernel) (hO := mm_own_160) rfl ?_
  refine mm_R_call (v := mm_wl) h hA (k2 := 47) (as := [.ref 1, .int (8 : Int32)]) (r := [.ref 80]) rfl (fun _ => rfl) (fun q hq o ho => ms_47 (by omega) hq ho) (fun r4 M5 h => ?_)
  show mm_Runs L xs (d + 1) 160 (89, [some (.ref 80), z1], [.long r4, .ref 80], M5) o
  refine mm_Runs.seq (l := [(89, .putfield 83, 3), (92, .aload_n 0, 1), (93, .getfield 83, 3), (96, .ldc2_w 113, 3)]) (S2 := (99, [some (.ref 80), z1], [.long (-1 : Int64), .long r4], (mm_pl M5 80 14 r4))) (by decide +kernel) (hO := mm_own_160) rfl ?_
  refine mm_R_llt (t := 114) rfl rfl rfl rfl (fun hc => ?_) (fun hc => ?_)
  · replace h := mm_ip hc h
    refine mm_Runs.seq (l := [(114, .iconst 1, 1), (115, .goto 4, 3)]) (S2 := (119, [some (.ref 80), z1], [.int (1 : Int32)], (mm_pl M5 80 14 r4))) (by decide +kernel) (hO := mm_own_160) rfl ?_
    exact (ms_160_j119 hd h hA : mp_160_119 L xs (d + 1) (1 : Int32) (mm_pl M5 80 14 r4) o) (some (.ref 80)) z1
  · replace h := mm_iq hc h
    refine mm_Runs.seq (l := [(103, .aload_n 0, 1), (104, .getfield 83, 3), (107, .ldc2_w 115, 3)]) (S2 := (110, [some (.ref 80), z1], [.long (16384 : Int64), .long r4], (mm_pl M5 80 14 r4))) (by decide +kernel) (hO := mm_own_160) rfl ?_
    refine mm_R_lle (t := 118) rfl rfl rfl rfl (fun hc => ?_) (fun hc => ?_)
    · replace h := mm_ip hc h
      refine mm_Runs.seq (l := [(114, .iconst 1, 1), (115, .goto 4, 3)]) (S2 := (119, [some (.ref 80), z1], [.int (1 : Int32)], (mm_pl M5 80 14 r4))) (by decide +kernel) (hO := mm_own_160) rfl ?_
      exact (ms_160_j119 hd h hA : mp_160_119 L xs (d + 1) (1 : Int32) (mm_pl M5 80 14 r4) o) (some (.ref 80)) z1
    · replace h := mm_iq hc h
      refine mm_Runs.seq (l := [(118, .iconst 0, 1)]) (S2 := (119, [some (.ref 80), z1], [.int (0 : Int32)], (mm_pl M5 80 14 r4))) (by decide +kernel) (hO := mm_own_160) rfl ?_
      exact (ms_160_j119 hd h hA : mp_160_119 L xs (d + 1) (0 : Int32) (mm_pl M5 80 14 r4) o) (some (.ref 80)) z1
set_option maxRecDepth 8000 in
set_option maxHeartbeats 4000000 in
theorem ms_160_j20 {L : Nat} {xs : Nat → Int32} {d : Nat} (hd : 9 ≤ d) {v1 : Int32} {s0 : Int32} {M : mm_M} {q : (Unit ⊕ Nat) × mm_M} {o : mm_E} (h : mf_160_j20 v1 s0 M = some q) (hA : mm_A (mm_Kr mm_wv) q o) : mp_160_20 L xs d v1 s0 M o := by
  unfold mf_160_j20 at h
  obtain ⟨d, rfl⟩ := mm_d1 (n := 8) hd
  show mm_Runs L xs (d + 1) 160 (20, [some (.ref 80), some (.int v1)], [.int s0], M) o
  refine mm_R_call (v := mm_wv) h hA (k2 := 27) (as := [.int s0]) (r := []) rfl (fun _ => rfl) (fun q hq o ho => ms_27 (by omega) hq ho) (fun _ M1 h => ?_)
  show mm_Runs L xs (d + 1) 160 (23, [some (.ref 80), some (.int v1)], [], M1) o
  refine mm_Runs.seq (l := [(23, .aload_n 0, 1), (24, .iload_n 1, 1), (25, .bipush 9, 2), (27, .irem, 1), (28, .putfield 104, 3), (31, .aload_n 0, 1), (32, .iload_n 1, 1), (33, .bipush 9, 2), (35, .idiv, 1), (36, .iconst 5, 1), (37, .irem, 1), (38, .putfield 107, 3), (41, .aload_n 0, 1), (42, .iload_n 1, 1), (43, .bipush 45, 2), (45, .idiv, 1), (46, .putfield 86, 3), (49, .aload_n 0, 1), (50, .getfield 104, 3), (53, .aload_n 0, 1), (54, .getfield 107, 3), (57, .iadd, 1), (58, .iconst 4, 1)]) (S2 := (59, [some (.ref 80), some (.int v1)], [.int (4 : Int32), .int ((mm_rem v1 (9 : Int32)) + (mm_rem (v1 / (9 : Int32)) (5 : Int32)))], (mm_pi (mm_pi (mm_pi M1 80 6 (mm_rem v1 (9 : Int32))) 80 7 (mm_rem (v1 / (9 : Int32)) (5 : Int32))) 80 8 (v1 / (45 : Int32))))) (by decide +kernel) (hO := mm_own_160) rfl ?_
  refine mm_R_ile (t := 66) rfl rfl rfl (fun hc => ?_) (fun hc => ?_)
  · replace h := mm_ip hc h
    refine mm_Runs.seq (l := [(62, .iconst 1, 1), (63, .goto 4, 3)]) (S2 := (67, [some (.ref 80), some (.int v1)], [.int (1 : Int32)], (mm_pi (mm_pi (mm_pi M1 80 6 (mm_rem v1 (9 : Int32))) 80 7 (mm_rem (v1 / (9 : Int32)) (5 : Int32))) 80 8 (v1 / (45 : Int32))))) (by decide +kernel) (hO := mm_own_160) rfl ?_
    exact (ms_160_j67 hd h hA : mp_160_67 L xs (d + 1) (1 : Int32) (mm_pi (mm_pi (mm_pi M1 80 6 (mm_rem v1 (9 : Int32))) 80 7 (mm_rem (v1 / (9 : Int32)) (5 : Int32))) 80 8 (v1 / (45 : Int32))) o) (some (.int v1))
  · replace h := mm_iq hc h
    refine mm_Runs.seq (l := [(66, .iconst 0, 1)]) (S2 := (67, [some (.ref 80), some (.int v1)], [.int (0 : Int32)], (mm_pi (mm_pi (mm_pi M1 80 6 (mm_rem v1 (9 : Int32))) 80 7 (mm_rem (v1 / (9 : Int32)) (5 : Int32))) 80 8 (v1 / (45 : Int32))))) (by decide +kernel) (hO := mm_own_160) rfl ?_
    exact (ms_160_j67 hd h hA : mp_160_67 L xs (d + 1) (0 : Int32) (mm_pi (mm_pi (mm_pi M1 80 6 (mm_rem v1 (9 : Int32))) 80 7 (mm_rem (v1 / (9 : Int32)) (5 : Int32))) 80 8 (v1 / (45 : Int32))) o) (some (.int v1))
set_option maxRecDepth 8000 in
set_option maxHeartbeats 4000000 in
theorem ms_160 {L : Nat} {xs : Nat → Int32} {d : Nat} (hd : 9 ≤ d) {M : mm_M} {q : (Unit ⊕ Nat) × mm_M} {o : mm_E} (h : mf_160 M = some q) (hA : mm_A (mm_Kr mm_wv) q o) : mm_Runs L xs d 160 (0, mm_ent (mm_ml 160) [.ref 80], [], M) o := by
  unfold mf_160 at h
  obtain ⟨d, rfl⟩ := mm_d1 (n := 8) hd
  show mm_Runs L xs (d + 1) 160 (0, [some (.ref 80), none], [], M) o
  refine mm_Runs.seq (l := [(0, .aload_n 0, 1), (1, .getfield 15, 3)]) (S2 := (4, [some (.ref 80), none], [.ref 1], M)) (by decide +kernel) (hO := mm_own_160) rfl ?_
  refine mm_R_call (v := mm_wi) h hA (k2 := 44) (as := [.ref 1]) (r := []) rfl (fun _ => rfl) (fun q hq o ho => ms_44 (by omega) hq ho) (fun r1 M2 h => ?_)
  show mm_Runs L xs (d + 1) 160 (7, [some (.ref 80), none], [.int r1], M2) o
  refine mm_Runs.seq (l := [(7, .istore_n 1, 1), (8, .iload_n 1, 1), (9, .sipush 224, 3)]) (S2 := (12, [some (.ref 80), some (.int r1)], [.int (224 : Int32), .int r1], M2)) (by decide +kernel) (hO := mm_own_160) rfl ?_
  refine mm_R_ile (t := 19) rfl rfl rfl (fun hc => ?_) (fun hc => ?_)
  · replace h := mm_ip hc h
    refine mm_Runs.seq (l := [(15, .iconst 1, 1), (16, .goto 4, 3)]) (S2 := (20, [some (.ref 80), some (.int r1)], [.int (1 : Int32)], M2)) (by decide +kernel) (hO := mm_own_160) rfl ?_
    exact (ms_160_j20 hd h hA : mp_160_20 L xs (d + 1) r1 (1 : Int32) M2 o)
  · replace h := mm_iq hc h
    refine mm_Runs.seq (l := [(19, .iconst 0, 1)]) (S2 := (20, [some (.ref 80), some (.int r1)], [.int (0 : Int32)], M2)) (by decide +kernel) (hO := mm_own_160) rfl ?_
    exact (ms_160_j20 hd h hA : mp_160_20 L xs (d + 1) r1 (0 : Int32) M2 o)
-- 158: PlainPacks$Chances.begin()V (depth 1)
theorem mm_own_158 : mm_own 158 = 11 := rfl
set_option maxRecDepth 8000 in
set_option maxHeartbeats 4000000 in
theorem ms_158 {L : Nat} {xs : Nat → Int32} {d : Nat} (hd : 1 ≤ d) {M : mm_M} {q : (Unit ⊕ Nat) × mm_M} {o : mm_E} (h : mf_158 M = some q) (hA : mm_A (mm_Kr mm_wv) q o) : mm_Runs L xs d 158 (0, mm_ent (mm_ml 158) [.ref 80], [], M) o := by
  unfold mf_158 at h
  obtain ⟨d, rfl⟩ := mm_d1 (n := 0) hd
  show mm_Runs L xs (d + 1) 158 (0, [some (.ref 80)], [], M) o
  refine mm_Runs.seq (l := [(0, .aload_n 0, 1), (1, .getfield 11, 3), (4, .sipush 1024, 3)]) (S2 := (7, [some (.ref 80)], [.int (1024 : Int32), .ref 81], M)) (by decide +kernel) (hO := mm_own_158) rfl ?_
  refine mm_R_call (v := mm_wv) h hA (k2 := 290) (as := [.ref 81, .int (1024 : Int32)]) (r := []) rfl (fun _ => rfl) (fun q hq o ho => ms_290 rfl (by omega) hq ho) (fun _ M1 h => ?_)
  show mm_Runs L xs (d + 1) 158 (10, [some (.ref 80)], [], M1) o
  refine mm_Runs.seq (l := [(10, .aload_n 0, 1), (11, .ldc2_w 33, 3), (14, .putfield 35, 3), (17, .aload_n 0, 1), (18, .iconst 0, 1), (19, .putfield 39, 3), (22, .aload_n 0, 1), (23, .iconst 1, 1), (24, .putfield 43, 3), (27, .aload_n 0, 1), (28, .iconst 1, 1), (29, .putfield 46, 3), (32, .aload_n 0, 1), (33, .iconst 1, 1), (34, .putfield 49, 3), (37, .aload_n 0, 1), (38, .iconst 1, 1), (39, .putfield 52, 3)]) (S2 := (42, [some (.ref 80)], [], (mm_pi (mm_pi (mm_pi (mm_pi (mm_pi (mm_pl M1 80 4 (4294967295 : Int64)) 80 9 (0 : Int32)) 80 10 (1 : Int32)) 80 11 (1 : Int32)) 80 12 (1 : Int32)) 80 13 (1 : Int32)))) (by decide +kernel) (hO := mm_own_158) rfl ?_
  cases h
  exact mm_R_retv rfl rfl hA
