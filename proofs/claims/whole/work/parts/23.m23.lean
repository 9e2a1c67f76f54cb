/-! MEANINGS 23 -/
-- 231: PlainPacksModel.walk(I)V (depth 2)
theorem mm_own_231 : mm_own 231 = 12 := rfl
def mp_231_4 (L : Nat) (xs : Nat → Int32) (d : Nat) (v1 : Int32) (v2 : Int32) (v3 : Int32) (M : mm_M) (o : mm_E) : Prop := ∀ z4 z5 z6 z7 z8 : Option Value, mm_Runs L xs d 231 (4, [some (.ref 84), some (.int v1), some (.int v2), some (.int v3), z4, z5, z6, z7, z8], [], M) o
def mp_231_64 (L : Nat) (xs : Nat → Int32) (d : Nat) (v1 : Int32) (M : mm_M) (o : mm_E) : Prop := ∀ z2 z3 z4 z5 z6 z7 z8 : Option Value, mm_Runs L xs d 231 (64, [some (.ref 84), some (.int v1), z2, z3, z4, z5, z6, z7, z8], [], M) o
def mp_231_21 (L : Nat) (xs : Nat → Int32) (d : Nat) (v1 : Int32) (v2 : Int32) (v3 : Int32) (v4 : Int32) (M : mm_M) (o : mm_E) : Prop := ∀ z5 z6 z7 z8 : Option Value, mm_Runs L xs d 231 (21, [some (.ref 84), some (.int v1), some (.int v2), some (.int v3), some (.int v4), z5, z6, z7, z8], [], M) o
def mp_231_58 (L : Nat) (xs : Nat → Int32) (d : Nat) (v1 : Int32) (v2 : Int32) (v3 : Int32) (M : mm_M) (o : mm_E) : Prop := ∀ z4 z5 z6 z7 z8 : Option Value, mm_Runs L xs d 231 (58, [some (.ref 84), some (.int v1), some (.int v2), some (.int v3), z4, z5, z6, z7, z8], [], M) o
noncomputable def mf_231_b21 (v1 : Int32) (v2 : Int32) (v3 : Int32) (v4 : Int32) (M : mm_M) : mm_O ((Int32 × Int32) ⊕ (Int32)) := if v4 < (M.1 84 28) then (if mm_in v4 16384 then if (M.1 95 v4.toNatClampNeg) = v3 then (if mm_in v2 16384 then some (.inl (.inl ((v2 + (1 : Int32)), (v4 + (1 : Int32)))), (mm_pi M 96 v2.toNatClampNeg v4)) else none) else (some (.inl (.inl (v2, (v4 + (1 : Int32)))), M)) else none) else (some (.inl (.inr v2), M))
noncomputable def mf_231_L21 (v1 : Int32) (v3 : Int32) (s : Int32 × Int32) (M : mm_M) : mm_O (Int32) := mm_L (fun s M => mf_231_b21 v1 s.1 v3 s.2 M) s M
set_option maxRecDepth 8000 in
set_option maxHeartbeats 4000000 in
theorem ms_231_b21 {L : Nat} {xs : Nat → Int32} {d : Nat} (hd : 2 ≤ d) {v1 : Int32} {v2 : Int32} {v3 : Int32} {v4 : Int32} {M : mm_M} {q : (((Int32 × Int32) ⊕ (Int32)) ⊕ Nat) × mm_M} {o : mm_E} (h : mf_231_b21 v1 v2 v3 v4 M = some q) (hA : mm_A (mm_K2 (fun s M o => mp_231_21 L xs (d) v1 s.1 v3 s.2 M o) (fun r M o => mp_231_58 L xs (d) v1 r v3 M o)) q o) : mp_231_21 L xs d v1 v2 v3 v4 M o := by
  unfold mf_231_b21 at h
  obtain ⟨d, rfl⟩ := mm_d1 (n := 1) hd
  intro z5 z6 z7 z8
  show mm_Runs L xs (d + 1) 231 (21, [some (.ref 84), some (.int v1), some (.int v2), some (.int v3), some (.int v4), z5, z6, z7, z8], [], M) o
  refine mm_Runs.seq (l := [(21, .iload 4, 2), (23, .aload_n 0, 1), (24, .getfield 307, 3)]) (S2 := (27, [some (.ref 84), some (.int v1), some (.int v2), some (.int v3), some (.int v4), z5, z6, z7, z8], [.int (M.1 84 28), .int v4], M)) (by decide +kernel) (hO := mm_own_231) rfl ?_
  refine mm_R_ige (t := 58) rfl rfl rfl (fun hc => ?_) (fun hc => ?_)
  · replace h := mm_ip hc h
    refine mm_Runs.seq (l := [(30, .aload_n 0, 1), (31, .getfield 41, 3), (34, .iload 4, 2)]) (S2 := (36, [some (.ref 84), some (.int v1), some (.int v2), some (.int v3), some (.int v4), z5, z6, z7, z8], [.int v4, .ref 95], M)) (by decide +kernel) (hO := mm_own_231) rfl ?_
    obtain ⟨hb, h⟩ := mm_gd h
    refine mm_R_iald rfl rfl hb ?_
    refine mm_Runs.seq (l := [(37, .iload_n 3, 1)]) (S2 := (38, [some (.ref 84), some (.int v1), some (.int v2), some (.int v3), some (.int v4), z5, z6, z7, z8], [.int v3, .int (M.1 95 v4.toNatClampNeg)], M)) (by decide +kernel) (hO := mm_own_231) rfl ?_
    refine mm_R_ine (t := 52) rfl rfl rfl (fun hc => ?_) (fun hc => ?_)
    · replace h := mm_ip hc h
      refine mm_Runs.seq (l := [(41, .aload_n 0, 1), (42, .getfield 44, 3), (45, .iload_n 2, 1), (46, .iload 4, 2)]) (S2 := (48, [some (.ref 84), some (.int v1), some (.int v2), some (.int v3), some (.int v4), z5, z6, z7, z8], [.int v4, .int v2, .ref 96], M)) (by decide +kernel) (hO := mm_own_231) rfl ?_
      obtain ⟨hb, h⟩ := mm_gd h
      refine mm_R_iast rfl rfl hb ?_
      refine mm_Runs.seq (l := [(49, .iinc 2 1, 3), (52, .iinc 4 1, 3), (55, .goto (-34), 3)]) (S2 := (21, [some (.ref 84), some (.int v1), some (.int (v2 + (1 : Int32))), some (.int v3), some (.int (v4 + (1 : Int32))), z5, z6, z7, z8], [], (mm_pi M 96 v2.toNatClampNeg v4))) (by decide +kernel) (hO := mm_own_231) rfl ?_
      cases h
      exact (show mp_231_21 L xs (d + 1) v1 (v2 + (1 : Int32)) v3 (v4 + (1 : Int32)) (mm_pi M 96 v2.toNatClampNeg v4) o from hA) z5 z6 z7 z8
    · replace h := mm_iq hc h
      refine mm_Runs.seq (l := [(52, .iinc 4 1, 3), (55, .goto (-34), 3)]) (S2 := (21, [some (.ref 84), some (.int v1), some (.int v2), some (.int v3), some (.int (v4 + (1 : Int32))), z5, z6, z7, z8], [], M)) (by decide +kernel) (hO := mm_own_231) rfl ?_
      cases h
      exact (show mp_231_21 L xs (d + 1) v1 v2 v3 (v4 + (1 : Int32)) M o from hA) z5 z6 z7 z8
  · replace h := mm_iq hc h
    cases h
    exact (show mp_231_58 L xs (d + 1) v1 v2 v3 M o from hA) (some (.int v4)) z5 z6 z7 z8
theorem ms_231_L21 {L : Nat} {xs : Nat → Int32} {d : Nat} (hd : 2 ≤ d) {v1 : Int32} {v2 : Int32} {v3 : Int32} {v4 : Int32} {β : Type} {K : β → mm_M → mm_E → Prop} {F : (Int32) → mm_M → mm_O β} {M : mm_M} {q : (β ⊕ Nat) × mm_M} {o : mm_E} (h : mm_B (mf_231_L21 v1 v3 (v2, v4) M) F = some q) (hA : mm_A K q o) (hx : ∀ (r : (Int32)) (M2 : mm_M), F r M2 = some q → (fun r M o => mp_231_58 L xs (d) v1 r v3 M o) r M2 o) : mp_231_21 L xs d v1 v2 v3 v4 M o := mm_R_loop (s := (v2, v4)) (M := M) (P := (fun s M o => mp_231_21 L xs (d) v1 s.1 v3 s.2 M o)) (X := (fun r M o => mp_231_58 L xs (d) v1 r v3 M o)) h hA (fun s M q hq hA => ms_231_b21 hd hq hA) hx
noncomputable def mf_231_b4 (v1 : Int32) (v2 : Int32) (v3 : Int32) (M : mm_M) : mm_O ((Int32 × Int32) ⊕ (Unit)) := if v3 < (256 : Int32) then (if (M.1 84 7) = 0 then (mm_B (mf_231_L21 v1 v3 (v2, (0 : Int32)) M) (fun r2 M1 => some (.inl (.inl (r2, (v3 + (1 : Int32)))), M1))) else (some (.inl (.inr ()), M))) else (some (.inl (.inr ()), M))
noncomputable def mf_231_L4 (v1 : Int32) (s : Int32 × Int32) (M : mm_M) : mm_O (Unit) := mm_L (fun s M => mf_231_b4 v1 s.1 s.2 M) s M
set_option maxRecDepth 8000 in
set_option maxHeartbeats 4000000 in
theorem ms_231_b4 {L : Nat} {xs : Nat → Int32} {d : Nat} (hd : 2 ≤ d) {v1 : Int32} {v2 : Int32} {v3 : Int32} {M : mm_M} {q : (((Int32 × Int32) ⊕ (Unit)) ⊕ Nat) × mm_M} {o : mm_E} (h : mf_231_b4 v1 v2 v3 M = some q) (hA : mm_A (mm_K2 (fun s M o => mp_231_4 L xs (d) v1 s.1 s.2 M o) (fun r M o => mp_231_64 L xs (d) v1 M o)) q o) : mp_231_4 L xs d v1 v2 v3 M o := by
  unfold mf_231_b4 at h
  obtain ⟨d, rfl⟩ := mm_d1 (n := 1) hd
  intro z4 z5 z6 z7 z8
  show mm_Runs L xs (d + 1) 231 (4, [some (.ref 84), some (.int v1), some (.int v2), some (.int v3), z4, z5, z6, z7, z8], [], M) o
  refine mm_Runs.seq (l := [(4, .iload_n 3, 1), (5, .sipush 256, 3)]) (S2 := (8, [some (.ref 84), some (.int v1), some (.int v2), some (.int v3), z4, z5, z6, z7, z8], [.int (256 : Int32), .int v3], M)) (by decide +kernel) (hO := mm_own_231) rfl ?_
  refine mm_R_ige (t := 64) rfl rfl rfl (fun hc => ?_) (fun hc => ?_)
  · replace h := mm_ip hc h
    refine mm_Runs.seq (l := [(11, .aload_n 0, 1), (12, .getfield 154, 3)]) (S2 := (15, [some (.ref 84), some (.int v1), some (.int v2), some (.int v3), z4, z5, z6, z7, z8], [.int (M.1 84 7)], M)) (by decide +kernel) (hO := mm_own_231) rfl ?_
    refine mm_R_zne (t := 64) rfl rfl rfl (fun hc => ?_) (fun hc => ?_)
    · replace h := mm_ip hc h
      refine mm_Runs.seq (l := [(18, .iconst 0, 1), (19, .istore 4, 2)]) (S2 := (21, [some (.ref 84), some (.int v1), some (.int v2), some (.int v3), some (.int (0 : Int32)), z5, z6, z7, z8], [], M)) (by decide +kernel) (hO := mm_own_231) rfl ?_
      have hp : mp_231_21 L xs (d + 1) v1 v2 v3 (0 : Int32) M o := by
        refine ms_231_L21 hd h hA (fun r2 M1 h => ?_)
        intro y3 y4 y5 y6 y7
        show mm_Runs L xs (d + 1) 231 (58, [some (.ref 84), some (.int v1), some (.int r2), some (.int v3), y3, y4, y5, y6, y7], [], M1) o
        refine mm_Runs.seq (l := [(58, .iinc 3 1, 3), (61, .goto (-57), 3)]) (S2 := (4, [some (.ref 84), some (.int v1), some (.int r2), some (.int (v3 + (1 : Int32))), y3, y4, y5, y6, y7], [], M1)) (by decide +kernel) (hO := mm_own_231) rfl ?_
        cases h
        exact (show mp_231_4 L xs (d + 1) v1 r2 (v3 + (1 : Int32)) M1 o from hA) y3 y4 y5 y6 y7
      exact hp z5 z6 z7 z8
    · replace h := mm_iq hc h
      cases h
      exact (show mp_231_64 L xs (d + 1) v1 M o from hA) (some (.int v2)) (some (.int v3)) z4 z5 z6 z7 z8
  · replace h := mm_iq hc h
    cases h
    exact (show mp_231_64 L xs (d + 1) v1 M o from hA) (some (.int v2)) (some (.int v3)) z4 z5 z6 z7 z8
theorem ms_231_L4 {L : Nat} {xs : Nat → Int32} {d : Nat} (hd : 2 ≤ d) {v1 : Int32} {v2 : Int32} {v3 : Int32} {β : Type} {K : β → mm_M → mm_E → Prop} {F : (Unit) → mm_M → mm_O β} {M : mm_M} {q : (β ⊕ Nat) × mm_M} {o : mm_E} (h : mm_B (mf_231_L4 v1 (v2, v3) M) F = some q) (hA : mm_A K q o) (hx : ∀ (r : (Unit)) (M2 : mm_M), F r M2 = some q → (fun r M o => mp_231_64 L xs (d) v1 M o) r M2 o) : mp_231_4 L xs d v1 v2 v3 M o := mm_R_loop (s := (v2, v3)) (M := M) (P := (fun s M o => mp_231_4 L xs (d) v1 s.1 s.2 M o)) (X := (fun r M o => mp_231_64 L xs (d) v1 M o)) h hA (fun s M q hq hA => ms_231_b4 hd hq hA) hx
def mp_231_91 (L : Nat) (xs : Nat → Int32) (d : Nat) (v3 : Int32) (v4 : Int32) (v5 : Int32) (v6 : Int32) (M : mm_M) (o : mm_E) : Prop := ∀ z1 z2 z7 z8 : Option Value, mm_Runs L xs d 231 (91, [some (.ref 84), z1, z2, some (.int v3), some (.int v4), some (.int v5), some (.int v6), z7, z8], [], M) o
def mp_231_201 (L : Nat) (xs : Nat → Int32) (d : Nat) (M : mm_M) (o : mm_E) : Prop := ∀ z0 z1 z2 z3 z4 z5 z6 z7 z8 : Option Value, mm_Runs L xs d 231 (201, [z0, z1, z2, z3, z4, z5, z6, z7, z8], [], M) o
def mp_231_124 (L : Nat) (xs : Nat → Int32) (d : Nat) (v3 : Int32) (v5 : Int32) (v6 : Int32) (v7 : Int32) (v8 : Int32) (M : mm_M) (o : mm_E) : Prop := ∀ z1 z2 z4 : Option Value, mm_Runs L xs d 231 (124, [some (.ref 84), z1, z2, some (.int v3), z4, some (.int v5), some (.int v6), some (.int v7), some (.int v8)], [], M) o
def mp_231_151 (L : Nat) (xs : Nat → Int32) (d : Nat) (v3 : Int32) (v6 : Int32) (M : mm_M) (o : mm_E) : Prop := ∀ z1 z2 z4 z5 z7 z8 : Option Value, mm_Runs L xs d 231 (151, [some (.ref 84), z1, z2, some (.int v3), z4, z5, some (.int v6), z7, z8], [], M) o
noncomputable def mf_231_b124 (v3 : Int32) (v5 : Int32) (v6 : Int32) (v7 : Int32) (v8 : Int32) (M : mm_M) : mm_O ((Int32) ⊕ (Unit)) := if v8 < v7 then (if (M.1 84 7) = 0 then (mm_B (mf_194 v5 M) (fun r1 M2 => some (.inl (.inl (v8 + (1 : Int32))), M2))) else (some (.inl (.inr ()), M))) else (some (.inl (.inr ()), M))
noncomputable def mf_231_L124 (v3 : Int32) (v5 : Int32) (v6 : Int32) (v7 : Int32) (s : Int32) (M : mm_M) : mm_O (Unit) := mm_L (fun s M => mf_231_b124 v3 v5 v6 v7 s M) s M
set_option maxRecDepth 8000 in
set_option maxHeartbeats 4000000 in
theorem ms_231_b124 {L : Nat} {xs : Nat → Int32} {d : Nat} (hd : 2 ≤ d) {v3 : Int32} {v5 : Int32} {v6 : Int32} {v7 : Int32} {v8 : Int32} {M : mm_M} {q : (((Int32) ⊕ (Unit)) ⊕ Nat) × mm_M} {o : mm_E} (h : mf_231_b124 v3 v5 v6 v7 v8 M = some q) (hA : mm_A (mm_K2 (fun s M o => mp_231_124 L xs (d) v3 v5 v6 v7 s M o) (fun r M o => mp_231_151 L xs (d) v3 v6 M o)) q o) : mp_231_124 L xs d v3 v5 v6 v7 v8 M o := by
  unfold mf_231_b124 at h
  obtain ⟨d, rfl⟩ := mm_d1 (n := 1) hd
  intro z1 z2 z4
  show mm_Runs L xs (d + 1) 231 (124, [some (.ref 84), z1, z2, some (.int v3), z4, some (.int v5), some (.int v6), some (.int v7), some (.int v8)], [], M) o
  refine mm_Runs.seq (l := [(124, .iload 8, 2), (126, .iload 7, 2)]) (S2 := (128, [some (.ref 84), z1, z2, some (.int v3), z4, some (.int v5), some (.int v6), some (.int v7), some (.int v8)], [.int v7, .int v8], M)) (by decide +kernel) (hO := mm_own_231) rfl ?_
  refine mm_R_ige (t := 151) rfl rfl rfl (fun hc => ?_) (fun hc => ?_)
  · replace h := mm_ip hc h
    refine mm_Runs.seq (l := [(131, .aload_n 0, 1), (132, .getfield 154, 3)]) (S2 := (135, [some (.ref 84), z1, z2, some (.int v3), z4, some (.int v5), some (.int v6), some (.int v7), some (.int v8)], [.int (M.1 84 7)], M)) (by decide +kernel) (hO := mm_own_231) rfl ?_
    refine mm_R_zne (t := 151) rfl rfl rfl (fun hc => ?_) (fun hc => ?_)
    · replace h := mm_ip hc h
      refine mm_Runs.seq (l := [(138, .aload_n 0, 1), (139, .iload 5, 2)]) (S2 := (141, [some (.ref 84), z1, z2, some (.int v3), z4, some (.int v5), some (.int v6), some (.int v7), some (.int v8)], [.int v5, .ref 84], M)) (by decide +kernel) (hO := mm_own_231) rfl ?_
      refine mm_R_call (v := mm_wi) h hA (k2 := 194) (as := [.ref 84, .int v5]) (r := []) rfl (fun _ => rfl) (fun q hq o ho => ms_194 (by omega) hq ho) (fun r1 M2 h => ?_)
      show mm_Runs L xs (d + 1) 231 (144, [some (.ref 84), z1, z2, some (.int v3), z4, some (.int v5), some (.int v6), some (.int v7), some (.int v8)], [.int r1], M2) o
      refine mm_Runs.seq (l := [(144, .pop, 1), (145, .iinc 8 1, 3), (148, .goto (-24), 3)]) (S2 := (124, [some (.ref 84), z1, z2, some (.int v3), z4, some (.int v5), some (.int v6), some (.int v7), some (.int (v8 + (1 : Int32)))], [], M2)) (by decide +kernel) (hO := mm_own_231) rfl ?_
      cases h
      exact (show mp_231_124 L xs (d + 1) v3 v5 v6 v7 (v8 + (1 : Int32)) M2 o from hA) z1 z2 z4
    · replace h := mm_iq hc h
      cases h
      exact (show mp_231_151 L xs (d + 1) v3 v6 M o from hA) z1 z2 z4 (some (.int v5)) (some (.int v7)) (some (.int v8))
  · replace h := mm_iq hc h
    cases h
    exact (show mp_231_151 L xs (d + 1) v3 v6 M o from hA) z1 z2 z4 (some (.int v5)) (some (.int v7)) (some (.int v8))
theorem ms_231_L124 {L : Nat} {xs : Nat → Int32} {d : Nat} (hd : 2 ≤ d) {v3 : Int32} {v5 : Int32} {v6 : Int32} {v7 : Int32} {v8 : Int32} {β : Type} {K : β → mm_M → mm_E → Prop} {F : (Unit) → mm_M → mm_O β} {M : mm_M} {q : (β ⊕ Nat) × mm_M} {o : mm_E} (h : mm_B (mf_231_L124 v3 v5 v6 v7 v8 M) F = some q) (hA : mm_A K q o) (hx : ∀ (r : (Unit)) (M2 : mm_M), F r M2 = some q → (fun r M o => mp_231_151 L xs (d) v3 v6 M o) r M2 o) : mp_231_124 L xs d v3 v5 v6 v7 v8 M o := mm_R_loop (s := v8) (M := M) (P := (fun s M o => mp_231_124 L xs (d) v3 v5 v6 v7 s M o)) (X := (fun r M o => mp_231_151 L xs (d) v3 v6 M o)) h hA (fun s M q hq hA => ms_231_b124 hd hq hA) hx
def mp_231_188 (L : Nat) (xs : Nat → Int32) (d : Nat) (v3 : Int32) (v4 : Int32) (v5 : Int32) (v6 : Int32) (M : mm_M) (o : mm_E) : Prop := ∀ z1 z2 z7 z8 : Option Value, mm_Runs L xs d 231 (188, [some (.ref 84), z1, z2, some (.int v3), some (.int v4), some (.int v5), some (.int v6), z7, z8], [], M) o
noncomputable def mf_231_j188 (v3 : Int32) (v4 : Int32) (v5 : Int32) (v6 : Int32) (M : mm_M) : mm_O ((Int32 × Int32 × Int32 × Int32) ⊕ (Unit)) := if mm_in v3 16384 then some (.inl (.inl ((M.1 96 v3.toNatClampNeg), v4, v5, (v6 + (1 : Int32)))), M) else none
set_option maxRecDepth 8000 in
set_option maxHeartbeats 4000000 in
theorem ms_231_j188 {L : Nat} {xs : Nat → Int32} {d : Nat} (hd : 2 ≤ d) {v3 : Int32} {v4 : Int32} {v5 : Int32} {v6 : Int32} {M : mm_M} {q : (((Int32 × Int32 × Int32 × Int32) ⊕ (Unit)) ⊕ Nat) × mm_M} {o : mm_E} (h : mf_231_j188 v3 v4 v5 v6 M = some q) (hA : mm_A (mm_K2 (fun s M o => mp_231_91 L xs (d) s.1 s.2.1 s.2.2.1 s.2.2.2 M o) (fun r M o => mp_231_201 L xs (d) M o)) q o) : mp_231_188 L xs d v3 v4 v5 v6 M o := by
  unfold mf_231_j188 at h
  obtain ⟨d, rfl⟩ := mm_d1 (n := 1) hd
  intro z1 z2 z7 z8
  show mm_Runs L xs (d + 1) 231 (188, [some (.ref 84), z1, z2, some (.int v3), some (.int v4), some (.int v5), some (.int v6), z7, z8], [], M) o
  refine mm_Runs.seq (l := [(188, .aload_n 0, 1), (189, .getfield 44, 3), (192, .iload_n 3, 1)]) (S2 := (193, [some (.ref 84), z1, z2, some (.int v3), some (.int v4), some (.int v5), some (.int v6), z7, z8], [.int v3, .ref 96], M)) (by decide +kernel) (hO := mm_own_231) rfl ?_
  obtain ⟨hb, h⟩ := mm_gd h
  refine mm_R_iald rfl rfl hb ?_
  refine mm_Runs.seq (l := [(194, .istore_n 3, 1), (195, .iinc 6 1, 3), (198, .goto (-107), 3)]) (S2 := (91, [some (.ref 84), z1, (mm_no2 z2), some (.int (M.1 96 v3.toNatClampNeg)), some (.int v4), some (.int v5), some (.int (v6 + (1 : Int32))), z7, z8], [], M)) (by decide +kernel) (hO := mm_own_231) rfl ?_
  cases h
  exact (show mp_231_91 L xs (d + 1) (M.1 96 v3.toNatClampNeg) v4 v5 (v6 + (1 : Int32)) M o from hA) z1 ((mm_no2 z2)) z7 z8
def mp_231_175 (L : Nat) (xs : Nat → Int32) (d : Nat) (v3 : Int32) (v6 : Int32) (v7 : Int32) (s0 : Int32) (M : mm_M) (o : mm_E) : Prop := ∀ z1 z2 z4 z5 z8 : Option Value, mm_Runs L xs d 231 (175, [some (.ref 84), z1, z2, some (.int v3), z4, z5, some (.int v6), some (.int v7), z8], [.int s0], M) o
noncomputable def mf_231_j175 (v3 : Int32) (v6 : Int32) (v7 : Int32) (s0 : Int32) (M : mm_M) : mm_O ((Int32 × Int32 × Int32 × Int32) ⊕ (Unit)) := mm_B (mf_194 v7 M) (fun r1 M2 => mf_231_j188 v3 s0 v7 v6 M2)
set_option maxRecDepth 8000 in
set_option maxHeartbeats 4000000 in
theorem ms_231_j175 {L : Nat} {xs : Nat → Int32} {d : Nat} (hd : 2 ≤ d) {v3 : Int32} {v6 : Int32} {v7 : Int32} {s0 : Int32} {M : mm_M} {q : (((Int32 × Int32 × Int32 × Int32) ⊕ (Unit)) ⊕ Nat) × mm_M} {o : mm_E} (h : mf_231_j175 v3 v6 v7 s0 M = some q) (hA : mm_A (mm_K2 (fun s M o => mp_231_91 L xs (d) s.1 s.2.1 s.2.2.1 s.2.2.2 M o) (fun r M o => mp_231_201 L xs (d) M o)) q o) : mp_231_175 L xs d v3 v6 v7 s0 M o := by
  unfold mf_231_j175 at h
  obtain ⟨d, rfl⟩ := mm_d1 (n := 1) hd
  intro z1 z2 z4 z5 z8
  show mm_Runs L xs (d + 1) 231 (175, [some (.ref 84), z1, z2, some (.int v3), z4, z5, some (.int v6), some (.int v7), z8], [.int s0], M) o
  refine mm_Runs.seq (l := [(175, .istore 4, 2), (177, .iload 7, 2), (179, .istore 5, 2), (181, .aload_n 0, 1), (182, .iload 7, 2)]) (S2 := (184, [some (.ref 84), z1, z2, some (.int v3), some (.int s0), some (.int v7), some (.int v6), some (.int v7), z8], [.int v7, .ref 84], M)) (by decide +kernel) (hO := mm_own_231) rfl ?_
  refine mm_R_call (v := mm_wi) h hA (k2 := 194) (as := [.ref 84, .int v7]) (r := []) rfl (fun _ => rfl) (fun q hq o ho => ms_194 (by omega) hq ho) (fun r1 M2 h => ?_)
  show mm_Runs L xs (d + 1) 231 (187, [some (.ref 84), z1, z2, some (.int v3), some (.int s0), some (.int v7), some (.int v6), some (.int v7), z8], [.int r1], M2) o
  refine mm_Runs.seq (l := [(187, .pop, 1)]) (S2 := (188, [some (.ref 84), z1, z2, some (.int v3), some (.int s0), some (.int v7), some (.int v6), some (.int v7), z8], [], M2)) (by decide +kernel) (hO := mm_own_231) rfl ?_
  exact (ms_231_j188 hd h hA : mp_231_188 L xs (d + 1) v3 s0 v7 v6 M2 o) z1 z2 (some (.int v7)) z8
noncomputable def mf_231_b91 (v3 : Int32) (v4 : Int32) (v5 : Int32) (v6 : Int32) (M : mm_M) : mm_O ((Int32 × Int32 × Int32 × Int32) ⊕ (Unit)) := if v6 < (M.1 84 28) then (if (M.1 84 7) = 0 then (if mm_in v3 16384 then if v4 = (4 : Int32) then (mm_B (mf_231_L124 v3 v5 v6 (M.1 95 v3.toNatClampNeg) (0 : Int32) M) (fun r2 M1 => mf_231_j188 v3 (0 : Int32) (-1 : Int32) v6 M1)) else (if (M.1 95 v3.toNatClampNeg) = v5 then (mf_231_j175 v3 v6 (M.1 95 v3.toNatClampNeg) (v4 + (1 : Int32)) M) else (mf_231_j175 v3 v6 (M.1 95 v3.toNatClampNeg) (1 : Int32) M)) else none) else (some (.inl (.inr ()), M))) else (some (.inl (.inr ()), M))
noncomputable def mf_231_L91 (s : Int32 × Int32 × Int32 × Int32) (M : mm_M) : mm_O (Unit) := mm_L (fun s M => mf_231_b91 s.1 s.2.1 s.2.2.1 s.2.2.2 M) s M
set_option maxRecDepth 8000 in
set_option maxHeartbeats 4000000 in
theorem ms_231_b91 {L : Nat} {xs : Nat → Int32} {d : Nat} (hd : 2 ≤ d) {v3 : Int32} {v4 : Int32} {v5 : Int32} {v6 : Int32} {M : mm_M} {q : (((Int32 × Int32 × Int32 × Int32) ⊕ (Unit)) ⊕ Nat) × mm_M} {o : mm_E} (h : mf_231_b91 v3 v4 v5 v6 M = some q) (hA : mm_A (mm_K2 (fun s M o => mp_231_91 L xs (d) s.1 s.2.1 s.2.2.1 s.2.2.2 M o) (fun r M o => mp_231_201 L xs (d) M o)) q o) : mp_231_91 L xs d v3 v4 v5 v6 M o := by
  unfold mf_231_b91 at h
  obtain ⟨d, rfl⟩ := mm_d1 (n := 1) hd
  intro z1 z2 z7 z8
  show mm_Runs L xs (d + 1) 231 (91, [some (.ref 84), z1, z2, some (.int v3), some (.int v4), some (.int v5), some (.int v6), z7, z8], [], M) o
  refine mm_Runs.seq (l := [(91, .iload 6, 2), (93, .aload_n 0, 1), (94, .getfield 307, 3)]) (S2 := (97, [some (.ref 84), z1, z2, some (.int v3), some (.int v4), some (.int v5), some (.int v6), z7, z8], [.int (M.1 84 28), .int v6], M)) (by decide +kernel) (hO := mm_own_231) rfl ?_
  refine mm_R_ige (t := 201) rfl rfl rfl (fun hc => ?_) (fun hc => ?_)
  · replace h := mm_ip hc h
    refine mm_Runs.seq (l := [(100, .aload_n 0, 1), (101, .getfield 154, 3)]) (S2 := (104, [some (.ref 84), z1, z2, some (.int v3), some (.int v4), some (.int v5), some (.int v6), z7, z8], [.int (M.1 84 7)], M)) (by decide +kernel) (hO := mm_own_231) rfl ?_
    refine mm_R_zne (t := 201) rfl rfl rfl (fun hc => ?_) (fun hc => ?_)
    · replace h := mm_ip hc h
      refine mm_Runs.seq (l := [(107, .aload_n 0, 1), (108, .getfield 41, 3), (111, .iload_n 3, 1)]) (S2 := (112, [some (.ref 84), z1, z2, some (.int v3), some (.int v4), some (.int v5), some (.int v6), z7, z8], [.int v3, .ref 95], M)) (by decide +kernel) (hO := mm_own_231) rfl ?_
      obtain ⟨hb, h⟩ := mm_gd h
      refine mm_R_iald rfl rfl hb ?_
      refine mm_Runs.seq (l := [(113, .istore 7, 2), (115, .iload 4, 2), (117, .iconst 4, 1)]) (S2 := (118, [some (.ref 84), z1, z2, some (.int v3), some (.int v4), some (.int v5), some (.int v6), some (.int (M.1 95 v3.toNatClampNeg)), z8], [.int (4 : Int32), .int v4], M)) (by decide +kernel) (hO := mm_own_231) rfl ?_
      refine mm_R_ine (t := 160) rfl rfl rfl (fun hc => ?_) (fun hc => ?_)
      · replace h := mm_ip hc h
        refine mm_Runs.seq (l := [(121, .iconst 0, 1), (122, .istore 8, 2)]) (S2 := (124, [some (.ref 84), z1, z2, some (.int v3), some (.int v4), some (.int v5), some (.int v6), some (.int (M.1 95 v3.toNatClampNeg)), some (.int (0 : Int32))], [], M)) (by decide +kernel) (hO := mm_own_231) rfl ?_
        have hp : mp_231_124 L xs (d + 1) v3 v5 v6 (M.1 95 v3.toNatClampNeg) (0 : Int32) M o := by
          refine ms_231_L124 hd h hA (fun r2 M1 h => ?_)
          intro y3 y4 y5 y6 y7 y8
          show mm_Runs L xs (d + 1) 231 (151, [some (.ref 84), y3, y4, some (.int v3), y5, y6, some (.int v6), y7, y8], [], M1) o
          refine mm_Runs.seq (l := [(151, .iconst 0, 1), (152, .istore 4, 2), (154, .iconst (-1), 1), (155, .istore 5, 2), (157, .goto 31, 3)]) (S2 := (188, [some (.ref 84), y3, y4, some (.int v3), some (.int (0 : Int32)), some (.int (-1 : Int32)), some (.int v6), y7, y8], [], M1)) (by decide +kernel) (hO := mm_own_231) rfl ?_
          exact (ms_231_j188 hd h hA : mp_231_188 L xs (d + 1) v3 (0 : Int32) (-1 : Int32) v6 M1 o) y3 y4 y7 y8
        exact hp z1 z2 (some (.int v4))
      · replace h := mm_iq hc h
        refine mm_Runs.seq (l := [(160, .iload 7, 2), (162, .iload 5, 2)]) (S2 := (164, [some (.ref 84), z1, z2, some (.int v3), some (.int v4), some (.int v5), some (.int v6), some (.int (M.1 95 v3.toNatClampNeg)), z8], [.int v5, .int (M.1 95 v3.toNatClampNeg)], M)) (by decide +kernel) (hO := mm_own_231) rfl ?_
        refine mm_R_ine (t := 174) rfl rfl rfl (fun hc => ?_) (fun hc => ?_)
        · replace h := mm_ip hc h
          refine mm_Runs.seq (l := [(167, .iload 4, 2), (169, .iconst 1, 1), (170, .iadd, 1), (171, .goto 4, 3)]) (S2 := (175, [some (.ref 84), z1, z2, some (.int v3), some (.int v4), some (.int v5), some (.int v6), some (.int (M.1 95 v3.toNatClampNeg)), z8], [.int (v4 + (1 : Int32))], M)) (by decide +kernel) (hO := mm_own_231) rfl ?_
          exact (ms_231_j175 hd h hA : mp_231_175 L xs (d + 1) v3 v6 (M.1 95 v3.toNatClampNeg) (v4 + (1 : Int32)) M o) z1 z2 (some (.int v4)) (some (.int v5)) z8
        · replace h := mm_iq hc h
          refine mm_Runs.seq (l := [(174, .iconst 1, 1)]) (S2 := (175, [some (.ref 84), z1, z2, some (.int v3), some (.int v4), some (.int v5), some (.int v6), some (.int (M.1 95 v3.toNatClampNeg)), z8], [.int (1 : Int32)], M)) (by decide +kernel) (hO := mm_own_231) rfl ?_
          exact (ms_231_j175 hd h hA : mp_231_175 L xs (d + 1) v3 v6 (M.1 95 v3.toNatClampNeg) (1 : Int32) M o) z1 z2 (some (.int v4)) (some (.int v5)) z8
    · replace h := mm_iq hc h
      cases h
      exact (show mp_231_201 L xs (d + 1) M o from hA) (some (.ref 84)) z1 z2 (some (.int v3)) (some (.int v4)) (some (.int v5)) (some (.int v6)) z7 z8
  · replace h := mm_iq hc h
    cases h
    exact (show mp_231_201 L xs (d + 1) M o from hA) (some (.ref 84)) z1 z2 (some (.int v3)) (some (.int v4)) (some (.int v5)) (some (.int v6)) z7 z8
theorem ms_231_L91 {L : Nat} {xs : Nat → Int32} {d : Nat} (hd : 2 ≤ d) {v3 : Int32} {v4 : Int32} {v5 : Int32} {v6 : Int32} {β : Type} {K : β → mm_M → mm_E → Prop} {F : (Unit) → mm_M → mm_O β} {M : mm_M} {q : (β ⊕ Nat) × mm_M} {o : mm_E} (h : mm_B (mf_231_L91 (v3, v4, v5, v6) M) F = some q) (hA : mm_A K q o) (hx : ∀ (r : (Unit)) (M2 : mm_M), F r M2 = some q → (fun r M o => mp_231_201 L xs (d) M o) r M2 o) : mp_231_91 L xs d v3 v4 v5 v6 M o := mm_R_loop (s := (v3, v4, v5, v6)) (M := M) (P := (fun s M o => mp_231_91 L xs (d) s.1 s.2.1 s.2.2.1 s.2.2.2 M o)) (X := (fun r M o => mp_231_201 L xs (d) M o)) h hA (fun s M q hq hA => ms_231_b91 hd hq hA) hx
noncomputable def mf_231_j64 (v1 : Int32) (M : mm_M) : mm_O Unit := if (M.1 84 7) = 0 then (if mm_in v1 16384 then mm_B (mf_231_L91 ((M.1 96 v1.toNatClampNeg), (0 : Int32), (-1 : Int32), (0 : Int32)) M) (fun r2 M1 => some (.inl (), M1)) else none) else (mm_B (mf_231_L91 ((0 : Int32), (0 : Int32), (-1 : Int32), (0 : Int32)) M) (fun r13 M12 => some (.inl (), M12)))
set_option maxRecDepth 8000 in
set_option maxHeartbeats 4000000 in
theorem ms_231_j64 {L : Nat} {xs : Nat → Int32} {d : Nat} (hd : 2 ≤ d) {v1 : Int32} {M : mm_M} {q : (Unit ⊕ Nat) × mm_M} {o : mm_E} (h : mf_231_j64 v1 M = some q) (hA : mm_A (mm_Kr mm_wv) q o) : mp_231_64 L xs d v1 M o := by
  unfold mf_231_j64 at h
  obtain ⟨d, rfl⟩ := mm_d1 (n := 1) hd
  intro z2 z3 z4 z5 z6 z7 z8
  show mm_Runs L xs (d + 1) 231 (64, [some (.ref 84), some (.int v1), z2, z3, z4, z5, z6, z7, z8], [], M) o
  refine mm_Runs.seq (l := [(64, .aload_n 0, 1), (65, .getfield 154, 3)]) (S2 := (68, [some (.ref 84), some (.int v1), z2, z3, z4, z5, z6, z7, z8], [.int (M.1 84 7)], M)) (by decide +kernel) (hO := mm_own_231) rfl ?_
  refine mm_R_zeq (t := 75) rfl rfl rfl (fun hc => ?_) (fun hc => ?_)
  · replace h := mm_ip hc h
    refine mm_Runs.seq (l := [(75, .aload_n 0, 1), (76, .getfield 44, 3), (79, .iload_n 1, 1)]) (S2 := (80, [some (.ref 84), some (.int v1), z2, z3, z4, z5, z6, z7, z8], [.int v1, .ref 96], M)) (by decide +kernel) (hO := mm_own_231) rfl ?_
    obtain ⟨hb, h⟩ := mm_gd h
    refine mm_R_iald rfl rfl hb ?_
    refine mm_Runs.seq (l := [(81, .istore_n 3, 1), (82, .iconst 0, 1), (83, .istore 4, 2), (85, .iconst (-1), 1), (86, .istore 5, 2), (88, .iconst 0, 1), (89, .istore 6, 2)]) (S2 := (91, [some (.ref 84), some (.int v1), (mm_no2 z2), some (.int (M.1 96 v1.toNatClampNeg)), some (.int (0 : Int32)), some (.int (-1 : Int32)), some (.int (0 : Int32)), z7, z8], [], M)) (by decide +kernel) (hO := mm_own_231) rfl ?_
    have hp : mp_231_91 L xs (d + 1) (M.1 96 v1.toNatClampNeg) (0 : Int32) (-1 : Int32) (0 : Int32) M o := by
      refine ms_231_L91 hd h hA (fun r2 M1 h => ?_)
      intro y3 y4 y5 y6 y7 y8 y9 y10 y11
      show mm_Runs L xs (d + 1) 231 (201, [y3, y4, y5, y6, y7, y8, y9, y10, y11], [], M1) o
      cases h
      exact mm_R_retv rfl rfl hA
    exact hp (some (.int v1)) ((mm_no2 z2)) z7 z8
  · replace h := mm_iq hc h
    refine mm_Runs.seq (l := [(71, .iconst 0, 1), (72, .goto 9, 3), (81, .istore_n 3, 1), (82, .iconst 0, 1), (83, .istore 4, 2), (85, .iconst (-1), 1), (86, .istore 5, 2), (88, .iconst 0, 1), (89, .istore 6, 2)]) (S2 := (91, [some (.ref 84), some (.int v1), (mm_no2 z2), some (.int (0 : Int32)), some (.int (0 : Int32)), some (.int (-1 : Int32)), some (.int (0 : Int32)), z7, z8], [], M)) (by decide +kernel) (hO := mm_own_231) rfl ?_
    have hp : mp_231_91 L xs (d + 1) (0 : Int32) (0 : Int32) (-1 : Int32) (0 : Int32) M o := by
      refine ms_231_L91 hd h hA (fun r13 M12 h => ?_)
      intro y14 y15 y16 y17 y18 y19 y20 y21 y22
      show mm_Runs L xs (d + 1) 231 (201, [y14, y15, y16, y17, y18, y19, y20, y21, y22], [], M12) o
      cases h
      exact mm_R_retv rfl rfl hA
    exact hp (some (.int v1)) ((mm_no2 z2)) z7 z8
noncomputable def mf_231 (v1 : Int32) (M : mm_M) : mm_O Unit := mm_B (mf_231_L4 v1 ((0 : Int32), (0 : Int32)) M) (fun r2 M1 => mf_231_j64 v1 M1)
set_option maxRecDepth 8000 in
set_option maxHeartbeats 4000000 in
theorem ms_231 {L : Nat} {xs : Nat → Int32} {d : Nat} (hd : 2 ≤ d) {v1 : Int32} {M : mm_M} {q : (Unit ⊕ Nat) × mm_M} {o : mm_E} (h : mf_231 v1 M = some q) (hA : mm_A (mm_Kr mm_wv) q o) : mm_Runs L xs d 231 (0, mm_ent (mm_ml 231) [.ref 84, .int v1], [], M) o := by
  unfold mf_231 at h
  obtain ⟨d, rfl⟩ := mm_d1 (n := 1) hd
  show mm_Runs L xs (d + 1) 231 (0, [some (.ref 84), some (.int v1), none, none, none, none, none, none, none], [], M) o
  refine mm_Runs.seq (l := [(0, .iconst 0, 1), (1, .istore_n 2, 1), (2, .iconst 0, 1), (3, .istore_n 3, 1)]) (S2 := (4, [some (.ref 84), some (.int v1), some (.int (0 : Int32)), some (.int (0 : Int32)), none, none, none, none, none], [], M)) (by decide +kernel) (hO := mm_own_231) rfl ?_
  have hp : mp_231_4 L xs (d + 1) v1 (0 : Int32) (0 : Int32) M o := by
    refine ms_231_L4 hd h hA (fun r2 M1 h => ?_)
    intro y3 y4 y5 y6 y7 y8 y9
    show mm_Runs L xs (d + 1) 231 (64, [some (.ref 84), some (.int v1), y3, y4, y5, y6, y7, y8, y9], [], M1) o
    exact (ms_231_j64 hd h hA : mp_231_64 L xs (d + 1) v1 M1 o) y3 y4 y5 y6 y7 y8 y9
  exact hp none none none none none
-- 183: PlainPacksModel.crcHigh([III)I (depth 0)
theorem mm_own_183 : mm_own 183 = 12 := rfl
def mp_183_5 (L : Nat) (xs : Nat → Int32) (p : Nat) (n : Nat) (d : Nat) (v2 : Int32) (v3 : Int32) (v4 : Int32) (M : mm_M) (o : mm_E) : Prop := ∀ z1 z5 : Option Value, mm_Runs L xs d 183 (5, [some (.ref p), z1, some (.int v2), some (.int v3), some (.int v4), z5], [], M) o
def mp_183_60 (L : Nat) (xs : Nat → Int32) (p : Nat) (n : Nat) (d : Nat) (v3 : Int32) (M : mm_M) (o : mm_E) : Prop := ∀ z0 z1 z2 z4 z5 : Option Value, mm_Runs L xs d 183 (60, [z0, z1, z2, some (.int v3), z4, z5], [], M) o
def mp_183_24 (L : Nat) (xs : Nat → Int32) (p : Nat) (n : Nat) (d : Nat) (v2 : Int32) (v3 : Int32) (v4 : Int32) (v5 : Int32) (M : mm_M) (o : mm_E) : Prop := ∀ z1 : Option Value, mm_Runs L xs d 183 (24, [some (.ref p), z1, some (.int v2), some (.int v3), some (.int v4), some (.int v5)], [], M) o
def mp_183_54 (L : Nat) (xs : Nat → Int32) (p : Nat) (n : Nat) (d : Nat) (v2 : Int32) (v3 : Int32) (v4 : Int32) (M : mm_M) (o : mm_E) : Prop := ∀ z1 z5 : Option Value, mm_Runs L xs d 183 (54, [some (.ref p), z1, some (.int v2), some (.int v3), some (.int v4), z5], [], M) o
noncomputable def mf_183_b24 (p : Nat) (n : Nat) (v2 : Int32) (v3 : Int32) (v4 : Int32) (v5 : Int32) (M : mm_M) : mm_O ((Int32 × Int32) ⊕ (Int32)) := if v5 < (8 : Int32) then (if v3 < 0 then (some (.inl (.inl (((mm_shl v3 (1 : Int32)) ^^^ (79764919 : Int32)), (v5 + (1 : Int32)))), M)) else (some (.inl (.inl ((mm_shl v3 (1 : Int32)), (v5 + (1 : Int32)))), M))) else (some (.inl (.inr v3), M))
noncomputable def mf_183_L24 (p : Nat) (n : Nat) (v2 : Int32) (v4 : Int32) (s : Int32 × Int32) (M : mm_M) : mm_O (Int32) := mm_L (fun s M => mf_183_b24 p n v2 s.1 v4 s.2 M) s M
set_option maxRecDepth 8000 in
set_option maxHeartbeats 4000000 in
theorem ms_183_b24 {L : Nat} {xs : Nat → Int32} {p : Nat} {n : Nat} {d : Nat} (ha : mm_aat 0 p = some n) (hd : 0 ≤ d) {v2 : Int32} {v3 : Int32} {v4 : Int32} {v5 : Int32} {M : mm_M} {q : (((Int32 × Int32) ⊕ (Int32)) ⊕ Nat) × mm_M} {o : mm_E} (h : mf_183_b24 p n v2 v3 v4 v5 M = some q) (hA : mm_A (mm_K2 (fun s M o => mp_183_24 L xs p n (d) v2 s.1 v4 s.2 M o) (fun r M o => mp_183_54 L xs p n (d) v2 r v4 M o)) q o) : mp_183_24 L xs p n d v2 v3 v4 v5 M o := by
  unfold mf_183_b24 at h
  intro z1
  show mm_Runs L xs (d) 183 (24, [some (.ref p), z1, some (.int v2), some (.int v3), some (.int v4), some (.int v5)], [], M) o
  refine mm_Runs.seq (l := [(24, .iload 5, 2), (26, .bipush 8, 2)]) (S2 := (28, [some (.ref p), z1, some (.int v2), some (.int v3), some (.int v4), some (.int v5)], [.int (8 : Int32), .int v5], M)) (by decide +kernel) (hO := mm_own_183) rfl ?_
  refine mm_R_ige (t := 54) rfl rfl rfl (fun hc => ?_) (fun hc => ?_)
  · replace h := mm_ip hc h
    refine mm_Runs.seq (l := [(31, .iload_n 3, 1)]) (S2 := (32, [some (.ref p), z1, some (.int v2), some (.int v3), some (.int v4), some (.int v5)], [.int v3], M)) (by decide +kernel) (hO := mm_own_183) rfl ?_
    refine mm_R_zge (t := 44) rfl rfl rfl (fun hc => ?_) (fun hc => ?_)
    · replace h := mm_ip hc h
      refine mm_Runs.seq (l := [(35, .iload_n 3, 1), (36, .iconst 1, 1), (37, .ishl, 1), (38, .ldc 120, 2), (40, .ixor, 1), (41, .goto 6, 3), (47, .istore_n 3, 1), (48, .iinc 5 1, 3), (51, .goto (-27), 3)]) (S2 := (24, [some (.ref p), z1, some (.int v2), some (.int ((mm_shl v3 (1 : Int32)) ^^^ (79764919 : Int32))), some (.int v4), some (.int (v5 + (1 : Int32)))], [], M)) (by decide +kernel) (hO := mm_own_183) rfl ?_
      cases h
      exact (show mp_183_24 L xs p n (d) v2 ((mm_shl v3 (1 : Int32)) ^^^ (79764919 : Int32)) v4 (v5 + (1 : Int32)) M o from hA) z1
    · replace h := mm_iq hc h
      refine mm_Runs.seq (l := [(44, .iload_n 3, 1), (45, .iconst 1, 1), (46, .ishl, 1), (47, .istore_n 3, 1), (48, .iinc 5 1, 3), (51, .goto (-27), 3)]) (S2 := (24, [some (.ref p), z1, some (.int v2), some (.int (mm_shl v3 (1 : Int32))), some (.int v4), some (.int (v5 + (1 : Int32)))], [], M)) (by decide +kernel) (hO := mm_own_183) rfl ?_
      cases h
      exact (show mp_183_24 L xs p n (d) v2 (mm_shl v3 (1 : Int32)) v4 (v5 + (1 : Int32)) M o from hA) z1
  · replace h := mm_iq hc h
    cases h
    exact (show mp_183_54 L xs p n (d) v2 v3 v4 M o from hA) z1 (some (.int v5))
theorem ms_183_L24 {L : Nat} {xs : Nat → Int32} {p : Nat} {n : Nat} {d : Nat} (ha : mm_aat 0 p = some n) (hd : 0 ≤ d) {v2 : Int32} {v3 : Int32} {v4 : Int32} {v5 : Int32} {β : Type} {K : β → mm_M → mm_E → Prop} {F : (Int32) → mm_M → mm_O β} {M : mm_M} {q : (β ⊕ Nat) × mm_M} {o : mm_E} (h : mm_B (mf_183_L24 p n v2 v4 (v3, v5) M) F = some q) (hA : mm_A K q o) (hx : ∀ (r : (Int32)) (M2 : mm_M), F r M2 = some q → (fun r M o => mp_183_54 L xs p n (d) v2 r v4 M o) r M2 o) : mp_183_24 L xs p n d v2 v3 v4 v5 M o := mm_R_loop (s := (v3, v5)) (M := M) (P := (fun s M o => mp_183_24 L xs p n (d) v2 s.1 v4 s.2 M o)) (X := (fun r M o => mp_183_54 L xs p n (d) v2 r v4 M o)) h hA (fun s M q hq hA => ms_183_b24 ha hd hq hA) hx
noncomputable def mf_183_b5 (p : Nat) (n : Nat) (v2 : Int32) (v3 : Int32) (v4 : Int32) (M : mm_M) : mm_O ((Int32 × Int32) ⊕ (Int32)) := if v4 < v2 then (if mm_in v4 n then mm_B (mf_183_L24 p n v2 v4 ((v3 ^^^ (mm_shl (M.1 p v4.toNatClampNeg) (24 : Int32))), (0 : Int32)) M) (fun r2 M1 => some (.inl (.inl (r2, (v4 + (1 : Int32)))), M1)) else none) else (some (.inl (.inr v3), M))
noncomputable def mf_183_L5 (p : Nat) (n : Nat) (v2 : Int32) (s : Int32 × Int32) (M : mm_M) : mm_O (Int32) := mm_L (fun s M => mf_183_b5 p n v2 s.1 s.2 M) s M
set_option maxRecDepth 8000 in
set_option maxHeartbeats 4000000 in
theorem ms_183_b5 {L : Nat} {xs : Nat → Int32} {p : Nat} {n : Nat} {d : Nat} (ha : mm_aat 0 p = some n) (hd : 0 ≤ d) {v2 : Int32} {v3 : Int32} {v4 : Int32} {M : mm_M} {q : (((Int32 × Int32) ⊕ (Int32)) ⊕ Nat) × mm_M} {o : mm_E} (h : mf_183_b5 p n v2 v3 v4 M = some q) (hA : mm_A (mm_K2 (fun s M o => mp_183_5 L xs p n (d) v2 s.1 s.2 M o) (fun r M o => mp_183_60 L xs p n (d) r M o)) q o) : mp_183_5 L xs p n d v2 v3 v4 M o := by
  unfold mf_183_b5 at h
  intro z1 z5
  show mm_Runs L xs (d) 183 (5, [some (.ref p), z1, some (.int v2), some (.int v3), some (.int v4), z5], [], M) o
  refine mm_Runs.seq (l := [(5, .iload 4, 2), (7, .iload_n 2, 1)]) (S2 := (8, [some (.ref p), z1, some (.int v2), some (.int v3), some (.int v4), z5], [.int v2, .int v4], M)) (by decide +kernel) (hO := mm_own_183) rfl ?_
  refine mm_R_ige (t := 60) rfl rfl rfl (fun hc => ?_) (fun hc => ?_)
  · replace h := mm_ip hc h
    refine mm_Runs.seq (l := [(11, .iload_n 3, 1), (12, .aload_n 0, 1), (13, .iload 4, 2)]) (S2 := (15, [some (.ref p), z1, some (.int v2), some (.int v3), some (.int v4), z5], [.int v4, .ref p, .int v3], M)) (by decide +kernel) (hO := mm_own_183) rfl ?_
    obtain ⟨hb, h⟩ := mm_gd h
    refine mm_R_iald rfl ha hb ?_
    refine mm_Runs.seq (l := [(16, .bipush 24, 2), (18, .ishl, 1), (19, .ixor, 1), (20, .istore_n 3, 1), (21, .iconst 0, 1), (22, .istore 5, 2)]) (S2 := (24, [some (.ref p), z1, some (.int v2), some (.int (v3 ^^^ (mm_shl (M.1 p v4.toNatClampNeg) (24 : Int32)))), some (.int v4), some (.int (0 : Int32))], [], M)) (by decide +kernel) (hO := mm_own_183) rfl ?_
    have hp : mp_183_24 L xs p n (d) v2 (v3 ^^^ (mm_shl (M.1 p v4.toNatClampNeg) (24 : Int32))) v4 (0 : Int32) M o := by
      refine ms_183_L24 ha hd h hA (fun r2 M1 h => ?_)
      intro y3 y4
      show mm_Runs L xs (d) 183 (54, [some (.ref p), y3, some (.int v2), some (.int r2), some (.int v4), y4], [], M1) o
      refine mm_Runs.seq (l := [(54, .iinc 4 1, 3), (57, .goto (-52), 3)]) (S2 := (5, [some (.ref p), y3, some (.int v2), some (.int r2), some (.int (v4 + (1 : Int32))), y4], [], M1)) (by decide +kernel) (hO := mm_own_183) rfl ?_
      cases h
      exact (show mp_183_5 L xs p n (d) v2 r2 (v4 + (1 : Int32)) M1 o from hA) y3 y4
    exact hp z1
  · replace h := mm_iq hc h
    cases h
    exact (show mp_183_60 L xs p n (d) v3 M o from hA) (some (.ref p)) z1 (some (.int v2)) (some (.int v4)) z5
theorem ms_183_L5 {L : Nat} {xs : Nat → Int32} {p : Nat} {n : Nat} {d : Nat} (ha : mm_aat 0 p = some n) (hd : 0 ≤ d) {v2 : Int32} {v3 : Int32} {v4 : Int32} {β : Type} {K : β → mm_M → mm_E → Prop} {F : (Int32) → mm_M → mm_O β} {M : mm_M} {q : (β ⊕ Nat) × mm_M} {o : mm_E} (h : mm_B (mf_183_L5 p n v2 (v3, v4) M) F = some q) (hA : mm_A K q o) (hx : ∀ (r : (Int32)) (M2 : mm_M), F r M2 = some q → (fun r M o => mp_183_60 L xs p n (d) r M o) r M2 o) : mp_183_5 L xs p n d v2 v3 v4 M o := mm_R_loop (s := (v3, v4)) (M := M) (P := (fun s M o => mp_183_5 L xs p n (d) v2 s.1 s.2 M o)) (X := (fun r M o => mp_183_60 L xs p n (d) r M o)) h hA (fun s M q hq hA => ms_183_b5 ha hd hq hA) hx
noncomputable def mf_183 (p : Nat) (n : Nat) (v1 : Int32) (v2 : Int32) (M : mm_M) : mm_O Int32 := mm_B (mf_183_L5 p n v2 ((-1 : Int32), v1) M) (fun r2 M1 => some (.inl (r2 ^^^ (-1 : Int32)), M1))
set_option maxRecDepth 8000 in
set_option maxHeartbeats 4000000 in
theorem ms_183 {L : Nat} {xs : Nat → Int32} {p : Nat} {n : Nat} {d : Nat} (ha : mm_aat 0 p = some n) (hd : 0 ≤ d) {v1 : Int32} {v2 : Int32} {M : mm_M} {q : (Int32 ⊕ Nat) × mm_M} {o : mm_E} (h : mf_183 p n v1 v2 M = some q) (hA : mm_A (mm_Kr mm_wi) q o) : mm_Runs L xs d 183 (0, mm_ent (mm_ml 183) [.ref p, .int v1, .int v2], [], M) o := by
  unfold mf_183 at h
  show mm_Runs L xs (d) 183 (0, [some (.ref p), some (.int v1), some (.int v2), none, none, none], [], M) o
  refine mm_Runs.seq (l := [(0, .iconst (-1), 1), (1, .istore_n 3, 1), (2, .iload_n 1, 1), (3, .istore 4, 2)]) (S2 := (5, [some (.ref p), some (.int v1), some (.int v2), some (.int (-1 : Int32)), some (.int v1), none], [], M)) (by decide +kernel) (hO := mm_own_183) rfl ?_
  have hp : mp_183_5 L xs p n (d) v2 (-1 : Int32) v1 M o := by
    refine ms_183_L5 ha hd h hA (fun r2 M1 h => ?_)
    intro y3 y4 y5 y6 y7
    show mm_Runs L xs (d) 183 (60, [y3, y4, y5, some (.int r2), y6, y7], [], M1) o
    refine mm_Runs.seq (l := [(60, .iload_n 3, 1), (61, .iconst (-1), 1), (62, .ixor, 1)]) (S2 := (63, [y3, y4, y5, some (.int r2), y6, y7], [.int (r2 ^^^ (-1 : Int32))], M1)) (by decide +kernel) (hO := mm_own_183) rfl ?_
    cases h
    exact mm_R_reti rfl rfl hA
  exact hp (some (.int v1)) none
-- 224: PlainPacksModel.sortedBlock()I (depth 5)
theorem mm_own_224 : mm_own 224 = 12 := rfl
def mp_224_41 (L : Nat) (xs : Nat → Int32) (d : Nat) (v1 : Int32) (M : mm_M) (o : mm_E) : Prop := ∀ z2 z3 z4 : Option Value, mm_Runs L xs d 224 (41, [some (.ref 84), some (.int v1), z2, z3, z4], [], M) o
def mp_224_92 (L : Nat) (xs : Nat → Int32) (d : Nat) (v1 : Int32) (v2 : Int32) (v3 : Int32) (M : mm_M) (o : mm_E) : Prop := ∀ z4 : Option Value, mm_Runs L xs d 224 (92, [some (.ref 84), some (.int v1), some (.int v2), some (.int v3), z4], [], M) o
def mp_224_96 (L : Nat) (xs : Nat → Int32) (d : Nat) (v1 : Int32) (v2 : Int32) (v3 : Int32) (M : mm_M) (o : mm_E) : Prop := ∀ z4 : Option Value, mm_Runs L xs d 224 (96, [some (.ref 84), some (.int v1), some (.int v2), some (.int v3), z4], [], M) o
def mp_224_125 (L : Nat) (xs : Nat → Int32) (d : Nat) (v1 : Int32) (v2 : Int32) (v3 : Int32) (M : mm_M) (o : mm_E) : Prop := ∀ z4 : Option Value, mm_Runs L xs d 224 (125, [some (.ref 84), some (.int v1), some (.int v2), some (.int v3), z4], [], M) o
def mp_224_132 (L : Nat) (xs : Nat → Int32) (d : Nat) (v1 : Int32) (v2 : Int32) (v3 : Int32) (v4 : Int32) (M : mm_M) (o : mm_E) : Prop := mm_Runs L xs d 224 (132, [some (.ref 84), some (.int v1), some (.int v2), some (.int v3), some (.int v4)], [], M) o
def mp_224_163 (L : Nat) (xs : Nat → Int32) (d : Nat) (v1 : Int32) (v2 : Int32) (v3 : Int32) (M : mm_M) (o : mm_E) : Prop := ∀ z4 : Option Value, mm_Runs L xs d 224 (163, [some (.ref 84), some (.int v1), some (.int v2), some (.int v3), z4], [], M) o
noncomputable def mf_224_b132 (v1 : Int32) (v2 : Int32) (v3 : Int32) (v4 : Int32) (M : mm_M) : mm_O ((Int32) ⊕ (Unit)) := if v4 < (M.1 84 29) then (if (M.1 84 7) = 0 then (mm_B (mf_227 v4 (v3 + (2 : Int32)) M) (fun _ M1 => some (.inl (.inl (v4 + (1 : Int32))), M1))) else (some (.inl (.inr ()), M))) else (some (.inl (.inr ()), M))
noncomputable def mf_224_L132 (v1 : Int32) (v2 : Int32) (v3 : Int32) (s : Int32) (M : mm_M) : mm_O (Unit) := mm_L (fun s M => mf_224_b132 v1 v2 v3 s M) s M
set_option maxRecDepth 8000 in
set_option maxHeartbeats 4000000 in
theorem ms_224_b132 {L : Nat} {xs : Nat → Int32} {d : Nat} (hd : 5 ≤ d) {v1 : Int32} {v2 : Int32} {v3 : Int32} {v4 : Int32} {M : mm_M} {q : (((Int32) ⊕ (Unit)) ⊕ Nat) × mm_M} {o : mm_E} (h : mf_224_b132 v1 v2 v3 v4 M = some q) (hA : mm_A (mm_K2 (fun s M o => mp_224_132 L xs (d) v1 v2 v3 s M o) (fun r M o => mp_224_163 L xs (d) v1 v2 v3 M o)) q o) : mp_224_132 L xs d v1 v2 v3 v4 M o := by
  unfold mf_224_b132 at h
  obtain ⟨d, rfl⟩ := mm_d1 (n := 4) hd
  show mm_Runs L xs (d + 1) 224 (132, [some (.ref 84), some (.int v1), some (.int v2), some (.int v3), some (.int v4)], [], M) o
  refine mm_Runs.seq (l := [(132, .iload 4, 2), (134, .aload_n 0, 1), (135, .getfield 292, 3)]) (S2 := (138, [some (.ref 84), some (.int v1), some (.int v2), some (.int v3), some (.int v4)], [.int (M.1 84 29), .int v4], M)) (by decide +kernel) (hO := mm_own_224) rfl ?_
  refine mm_R_ige (t := 163) rfl rfl rfl (fun hc => ?_) (fun hc => ?_)
  · replace h := mm_ip hc h
    refine mm_Runs.seq (l := [(141, .aload_n 0, 1), (142, .getfield 154, 3)]) (S2 := (145, [some (.ref 84), some (.int v1), some (.int v2), some (.int v3), some (.int v4)], [.int (M.1 84 7)], M)) (by decide +kernel) (hO := mm_own_224) rfl ?_
    refine mm_R_zne (t := 163) rfl rfl rfl (fun hc => ?_) (fun hc => ?_)
    · replace h := mm_ip hc h
      refine mm_Runs.seq (l := [(148, .aload_n 0, 1), (149, .iload 4, 2), (151, .iload_n 3, 1), (152, .iconst 2, 1), (153, .iadd, 1)]) (S2 := (154, [some (.ref 84), some (.int v1), some (.int v2), some (.int v3), some (.int v4)], [.int (v3 + (2 : Int32)), .int v4, .ref 84], M)) (by decide +kernel) (hO := mm_own_224) rfl ?_
      refine mm_R_call (v := mm_wv) h hA (k2 := 227) (as := [.ref 84, .int v4, .int (v3 + (2 : Int32))]) (r := []) rfl (fun _ => rfl) (fun q hq o ho => ms_227 (by omega) hq ho) (fun _ M1 h => ?_)
      show mm_Runs L xs (d + 1) 224 (157, [some (.ref 84), some (.int v1), some (.int v2), some (.int v3), some (.int v4)], [], M1) o
      refine mm_Runs.seq (l := [(157, .iinc 4 1, 3), (160, .goto (-28), 3)]) (S2 := (132, [some (.ref 84), some (.int v1), some (.int v2), some (.int v3), some (.int (v4 + (1 : Int32)))], [], M1)) (by decide +kernel) (hO := mm_own_224) rfl ?_
      cases h
      exact (show mp_224_132 L xs (d + 1) v1 v2 v3 (v4 + (1 : Int32)) M1 o from hA)
    · replace h := mm_iq hc h
      cases h
      exact (show mp_224_163 L xs (d + 1) v1 v2 v3 M o from hA) (some (.int v4))
  · replace h := mm_iq hc h
    cases h
    exact (show mp_224_163 L xs (d + 1) v1 v2 v3 M o from hA) (some (.int v4))
theorem ms_224_L132 {L : Nat} {xs : Nat → Int32} {d : Nat} (hd : 5 ≤ d) {v1 : Int32} {v2 : Int32} {v3 : Int32} {v4 : Int32} {β : Type} {K : β → mm_M → mm_E → Prop} {F : (Unit) → mm_M → mm_O β} {M : mm_M} {q : (β ⊕ Nat) × mm_M} {o : mm_E} (h : mm_B (mf_224_L132 v1 v2 v3 v4 M) F = some q) (hA : mm_A K q o) (hx : ∀ (r : (Unit)) (M2 : mm_M), F r M2 = some q → (fun r M o => mp_224_163 L xs (d) v1 v2 v3 M o) r M2 o) : mp_224_132 L xs d v1 v2 v3 v4 M o := mm_R_loop (s := v4) (M := M) (P := (fun s M o => mp_224_132 L xs (d) v1 v2 v3 s M o)) (X := (fun r M o => mp_224_163 L xs (d) v1 v2 v3 M o)) h hA (fun s M q hq hA => ms_224_b132 hd hq hA) hx
def mp_224_189 (L : Nat) (xs : Nat → Int32) (d : Nat) (v1 : Int32) (v2 : Int32) (M : mm_M) (o : mm_E) : Prop := ∀ z3 z4 : Option Value, mm_Runs L xs d 224 (189, [some (.ref 84), some (.int v1), some (.int v2), z3, z4], [], M) o
noncomputable def mf_224_j189 (v1 : Int32) (v2 : Int32) (M : mm_M) : mm_O Int32 := mm_B (mf_231 v2 M) (fun _ M1 => if (M1.1 84 7) = 0 then (mm_B (mf_183 86 16384 (M.1 84 4) (M1.1 84 4) M1) (fun r2 M3 => if r2 = v1 then (some (.inl v1, M3)) else (mm_B (mf_190 M3) (fun _ M4 => some (.inl v1, M4))))) else (some (.inl v1, M1)))
set_option maxRecDepth 8000 in
set_option maxHeartbeats 4000000 in
theorem ms_224_j189 {L : Nat} {xs : Nat → Int32} {d : Nat} (hd : 5 ≤ d) {v1 : Int32} {v2 : Int32} {M : mm_M} {q : (Int32 ⊕ Nat) × mm_M} {o : mm_E} (h : mf_224_j189 v1 v2 M = some q) (hA : mm_A (mm_Kr mm_wi) q o) : mp_224_189 L xs d v1 v2 M o := by
  unfold mf_224_j189 at h
  obtain ⟨d, rfl⟩ := mm_d1 (n := 4) hd
  intro z3 z4
  show mm_Runs L xs (d + 1) 224 (189, [some (.ref 84), some (.int v1), some (.int v2), z3, z4], [], M) o
  refine mm_Runs.seq (l := [(189, .aload_n 0, 1), (190, .getfield 98, 3), (193, .istore 4, 2), (195, .aload_n 0, 1), (196, .iload_n 2, 1)]) (S2 := (197, [some (.ref 84), some (.int v1), some (.int v2), (mm_no2 z3), some (.int (M.1 84 4))], [.int v2, .ref 84], M)) (by decide +kernel) (hO := mm_own_224) rfl ?_
  refine mm_R_call (v := mm_wv) h hA (k2 := 231) (as := [.ref 84, .int v2]) (r := []) rfl (fun _ => rfl) (fun q hq o ho => ms_231 (by omega) hq ho) (fun _ M1 h => ?_)
  show mm_Runs L xs (d + 1) 224 (200, [some (.ref 84), some (.int v1), some (.int v2), (mm_no2 z3), some (.int (M.1 84 4))], [], M1) o
  refine mm_Runs.seq (l := [(200, .aload_n 0, 1), (201, .getfield 154, 3)]) (S2 := (204, [some (.ref 84), some (.int v1), some (.int v2), (mm_no2 z3), some (.int (M.1 84 4))], [.int (M1.1 84 7)], M1)) (by decide +kernel) (hO := mm_own_224) rfl ?_
  refine mm_R_zne (t := 228) rfl rfl rfl (fun hc => ?_) (fun hc => ?_)
  · replace h := mm_ip hc h
    refine mm_Runs.seq (l := [(207, .aload_n 0, 1), (208, .getfield 13, 3), (211, .iload 4, 2), (213, .aload_n 0, 1), (214, .getfield 98, 3)]) (S2 := (217, [some (.ref 84), some (.int v1), some (.int v2), (mm_no2 z3), some (.int (M.1 84 4))], [.int (M1.1 84 4), .int (M.1 84 4), .ref 86], M1)) (by decide +kernel) (hO := mm_own_224) rfl ?_
    refine mm_R_call (v := mm_wi) h hA (k2 := 183) (as := [.ref 86, .int (M.1 84 4), .int (M1.1 84 4)]) (r := []) rfl (fun _ => rfl) (fun q hq o ho => ms_183 rfl (by omega) hq ho) (fun r2 M3 h => ?_)
    show mm_Runs L xs (d + 1) 224 (220, [some (.ref 84), some (.int v1), some (.int v2), (mm_no2 z3), some (.int (M.1 84 4))], [.int r2], M3) o
    refine mm_Runs.seq (l := [(220, .iload_n 1, 1)]) (S2 := (221, [some (.ref 84), some (.int v1), some (.int v2), (mm_no2 z3), some (.int (M.1 84 4))], [.int v1, .int r2], M3)) (by decide +kernel) (hO := mm_own_224) rfl ?_
    refine mm_R_ieq (t := 228) rfl rfl rfl (fun hc => ?_) (fun hc => ?_)
    · replace h := mm_ip hc h
      refine mm_Runs.seq (l := [(228, .iload_n 1, 1)]) (S2 := (229, [some (.ref 84), some (.int v1), some (.int v2), (mm_no2 z3), some (.int (M.1 84 4))], [.int v1], M3)) (by decide +kernel) (hO := mm_own_224) rfl ?_
      cases h
      exact mm_R_reti rfl rfl hA
    · replace h := mm_iq hc h
      refine mm_Runs.seq (l := [(224, .aload_n 0, 1)]) (S2 := (225, [some (.ref 84), some (.int v1), some (.int v2), (mm_no2 z3), some (.int (M.1 84 4))], [.ref 84], M3)) (by decide +kernel) (hO := mm_own_224) rfl ?_
      refine mm_R_call (v := mm_wv) h hA (k2 := 190) (as := [.ref 84]) (r := []) rfl (fun _ => rfl) (fun q hq o ho => ms_190 (by omega) hq ho) (fun _ M4 h => ?_)
      show mm_Runs L xs (d + 1) 224 (228, [some (.ref 84), some (.int v1), some (.int v2), (mm_no2 z3), some (.int (M.1 84 4))], [], M4) o
      refine mm_Runs.seq (l := [(228, .iload_n 1, 1)]) (S2 := (229, [some (.ref 84), some (.int v1), some (.int v2), (mm_no2 z3), some (.int (M.1 84 4))], [.int v1], M4)) (by decide +kernel) (hO := mm_own_224) rfl ?_
      cases h
      exact mm_R_reti rfl rfl hA
  · replace h := mm_iq hc h
    refine mm_Runs.seq (l := [(228, .iload_n 1, 1)]) (S2 := (229, [some (.ref 84), some (.int v1), some (.int v2), (mm_no2 z3), some (.int (M.1 84 4))], [.int v1], M1)) (by decide +kernel) (hO := mm_own_224) rfl ?_
    cases h
    exact mm_R_reti rfl rfl hA
noncomputable def mf_224_j163 (v1 : Int32) (v2 : Int32) (v3 : Int32) (M : mm_M) : mm_O Int32 := mm_B (mf_228 (v3 + (2 : Int32)) M) (fun _ M1 => if (M1.1 84 7) = 0 then (if v2 < (M1.1 84 28) then (mf_224_j189 v1 v2 M1) else (mm_B (mf_190 M1) (fun _ M2 => mf_224_j189 v1 v2 M2))) else (mf_224_j189 v1 v2 M1))
set_option maxRecDepth 8000 in
set_option maxHeartbeats 4000000 in
theorem ms_224_j163 {L : Nat} {xs : Nat → Int32} {d : Nat} (hd : 5 ≤ d) {v1 : Int32} {v2 : Int32} {v3 : Int32} {M : mm_M} {q : (Int32 ⊕ Nat) × mm_M} {o : mm_E} (h : mf_224_j163 v1 v2 v3 M = some q) (hA : mm_A (mm_Kr mm_wi) q o) : mp_224_163 L xs d v1 v2 v3 M o := by
  unfold mf_224_j163 at h
  obtain ⟨d, rfl⟩ := mm_d1 (n := 4) hd
  intro z4
  show mm_Runs L xs (d + 1) 224 (163, [some (.ref 84), some (.int v1), some (.int v2), some (.int v3), z4], [], M) o
  refine mm_Runs.seq (l := [(163, .aload_n 0, 1), (164, .iload_n 3, 1), (165, .iconst 2, 1), (166, .iadd, 1)]) (S2 := (167, [some (.ref 84), some (.int v1), some (.int v2), some (.int v3), z4], [.int (v3 + (2 : Int32)), .ref 84], M)) (by decide +kernel) (hO := mm_own_224) rfl ?_
  refine mm_R_call (v := mm_wv) h hA (k2 := 228) (as := [.ref 84, .int (v3 + (2 : Int32))]) (r := []) rfl (fun _ => rfl) (fun q hq o ho => ms_228 (by omega) hq ho) (fun _ M1 h => ?_)
  show mm_Runs L xs (d + 1) 224 (170, [some (.ref 84), some (.int v1), some (.int v2), some (.int v3), z4], [], M1) o
  refine mm_Runs.seq (l := [(170, .aload_n 0, 1), (171, .getfield 154, 3)]) (S2 := (174, [some (.ref 84), some (.int v1), some (.int v2), some (.int v3), z4], [.int (M1.1 84 7)], M1)) (by decide +kernel) (hO := mm_own_224) rfl ?_
  refine mm_R_zne (t := 189) rfl rfl rfl (fun hc => ?_) (fun hc => ?_)
  · replace h := mm_ip hc h
    refine mm_Runs.seq (l := [(177, .iload_n 2, 1), (178, .aload_n 0, 1), (179, .getfield 307, 3)]) (S2 := (182, [some (.ref 84), some (.int v1), some (.int v2), some (.int v3), z4], [.int (M1.1 84 28), .int v2], M1)) (by decide +kernel) (hO := mm_own_224) rfl ?_
    refine mm_R_ilt (t := 189) rfl rfl rfl (fun hc => ?_) (fun hc => ?_)
    · replace h := mm_ip hc h
      exact (ms_224_j189 hd h hA : mp_224_189 L xs (d + 1) v1 v2 M1 o) (some (.int v3)) z4
    · replace h := mm_iq hc h
      refine mm_Runs.seq (l := [(185, .aload_n 0, 1)]) (S2 := (186, [some (.ref 84), some (.int v1), some (.int v2), some (.int v3), z4], [.ref 84], M1)) (by decide +kernel) (hO := mm_own_224) rfl ?_
      refine mm_R_call (v := mm_wv) h hA (k2 := 190) (as := [.ref 84]) (r := []) rfl (fun _ => rfl) (fun q hq o ho => ms_190 (by omega) hq ho) (fun _ M2 h => ?_)
      show mm_Runs L xs (d + 1) 224 (189, [some (.ref 84), some (.int v1), some (.int v2), some (.int v3), z4], [], M2) o
      exact (ms_224_j189 hd h hA : mp_224_189 L xs (d + 1) v1 v2 M2 o) (some (.int v3)) z4
  · replace h := mm_iq hc h
    exact (ms_224_j189 hd h hA : mp_224_189 L xs (d + 1) v1 v2 M1 o) (some (.int v3)) z4
noncomputable def mf_224_j125 (v1 : Int32) (v2 : Int32) (v3 : Int32) (M : mm_M) : mm_O Int32 := mm_B (mf_226 M) (fun _ M1 => mm_B (mf_224_L132 v1 v2 v3 (0 : Int32) M1) (fun r3 M2 => mf_224_j163 v1 v2 v3 M2))
set_option maxRecDepth 8000 in
set_option maxHeartbeats 4000000 in
theorem ms_224_j125 {L : Nat} {xs : Nat → Int32} {d : Nat} (hd : 5 ≤ d) {v1 : Int32} {v2 : Int32} {v3 : Int32} {M : mm_M} {q : (Int32 ⊕ Nat) × mm_M} {o : mm_E} (h : mf_224_j125 v1 v2 v3 M = some q) (hA : mm_A (mm_Kr mm_wi) q o) : mp_224_125 L xs d v1 v2 v3 M o := by
  unfold mf_224_j125 at h
  obtain ⟨d, rfl⟩ := mm_d1 (n := 4) hd
  intro z4
  show mm_Runs L xs (d + 1) 224 (125, [some (.ref 84), some (.int v1), some (.int v2), some (.int v3), z4], [], M) o
  refine mm_Runs.seq (l := [(125, .aload_n 0, 1)]) (S2 := (126, [some (.ref 84), some (.int v1), some (.int v2), some (.int v3), z4], [.ref 84], M)) (by decide +kernel) (hO := mm_own_224) rfl ?_
  refine mm_R_call (v := mm_wv) h hA (k2 := 226) (as := [.ref 84]) (r := []) rfl (fun _ => rfl) (fun q hq o ho => ms_226 (by omega) hq ho) (fun _ M1 h => ?_)
  show mm_Runs L xs (d + 1) 224 (129, [some (.ref 84), some (.int v1), some (.int v2), some (.int v3), z4], [], M1) o
  refine mm_Runs.seq (l := [(129, .iconst 0, 1), (130, .istore 4, 2)]) (S2 := (132, [some (.ref 84), some (.int v1), some (.int v2), some (.int v3), some (.int (0 : Int32))], [], M1)) (by decide +kernel) (hO := mm_own_224) rfl ?_
  have hp : mp_224_132 L xs (d + 1) v1 v2 v3 (0 : Int32) M1 o := by
    refine ms_224_L132 hd h hA (fun r3 M2 h => ?_)
    intro y4
    show mm_Runs L xs (d + 1) 224 (163, [some (.ref 84), some (.int v1), some (.int v2), some (.int v3), y4], [], M2) o
    exact (ms_224_j163 hd h hA : mp_224_163 L xs (d + 1) v1 v2 v3 M2 o) y4
  exact hp
noncomputable def mf_224_j96 (v1 : Int32) (v2 : Int32) (v3 : Int32) (M : mm_M) : mm_O Int32 := mm_B (mf_198 (15 : Int32) M) (fun r1 M2 => if (M2.1 84 7) = 0 then (if r1.toInt32 = 0 then (mm_B (mf_190 (mm_pi M2 84 30 r1.toInt32)) (fun _ M3 => mf_224_j125 v1 v2 v3 M3)) else (mf_224_j125 v1 v2 v3 (mm_pi M2 84 30 r1.toInt32))) else (mf_224_j125 v1 v2 v3 (mm_pi M2 84 30 r1.toInt32)))
set_option maxRecDepth 8000 in
set_option maxHeartbeats 4000000 in
theorem ms_224_j96 {L : Nat} {xs : Nat → Int32} {d : Nat} (hd : 5 ≤ d) {v1 : Int32} {v2 : Int32} {v3 : Int32} {M : mm_M} {q : (Int32 ⊕ Nat) × mm_M} {o : mm_E} (h : mf_224_j96 v1 v2 v3 M = some q) (hA : mm_A (mm_Kr mm_wi) q o) : mp_224_96 L xs d v1 v2 v3 M o := by
  unfold mf_224_j96 at h
  obtain ⟨d, rfl⟩ := mm_d1 (n := 4) hd
  intro z4
  show mm_Runs L xs (d + 1) 224 (96, [some (.ref 84), some (.int v1), some (.int v2), some (.int v3), z4], [], M) o
  refine mm_Runs.seq (l := [(96, .aload_n 0, 1), (97, .aload_n 0, 1), (98, .bipush 15, 2)]) (S2 := (100, [some (.ref 84), some (.int v1), some (.int v2), some (.int v3), z4], [.int (15 : Int32), .ref 84, .ref 84], M)) (by decide +kernel) (hO := mm_own_224) rfl ?_
  refine mm_R_call (v := mm_wl) h hA (k2 := 198) (as := [.ref 84, .int (15 : Int32)]) (r := [.ref 84]) rfl (fun _ => rfl) (fun q hq o ho => ms_198 (by omega) hq ho) (fun r1 M2 h => ?_)
  show mm_Runs L xs (d + 1) 224 (103, [some (.ref 84), some (.int v1), some (.int v2), some (.int v3), z4], [.long r1, .ref 84], M2) o
  refine mm_Runs.seq (l := [(103, .l2i, 1), (104, .putfield 295, 3), (107, .aload_n 0, 1), (108, .getfield 154, 3)]) (S2 := (111, [some (.ref 84), some (.int v1), some (.int v2), some (.int v3), z4], [.int (M2.1 84 7)], (mm_pi M2 84 30 r1.toInt32))) (by decide +kernel) (hO := mm_own_224) rfl ?_
  refine mm_R_zne (t := 125) rfl rfl rfl (fun hc => ?_) (fun hc => ?_)
  · replace h := mm_ip hc h
    refine mm_Runs.seq (l := [(114, .aload_n 0, 1), (115, .getfield 295, 3)]) (S2 := (118, [some (.ref 84), some (.int v1), some (.int v2), some (.int v3), z4], [.int r1.toInt32], (mm_pi M2 84 30 r1.toInt32))) (by decide +kernel) (hO := mm_own_224) rfl ?_
    refine mm_R_zne (t := 125) rfl rfl rfl (fun hc => ?_) (fun hc => ?_)
    · replace h := mm_ip hc h
      refine mm_Runs.seq (l := [(121, .aload_n 0, 1)]) (S2 := (122, [some (.ref 84), some (.int v1), some (.int v2), some (.int v3), z4], [.ref 84], (mm_pi M2 84 30 r1.toInt32))) (by decide +kernel) (hO := mm_own_224) rfl ?_
      refine mm_R_call (v := mm_wv) h hA (k2 := 190) (as := [.ref 84]) (r := []) rfl (fun _ => rfl) (fun q hq o ho => ms_190 (by omega) hq ho) (fun _ M3 h => ?_)
      show mm_Runs L xs (d + 1) 224 (125, [some (.ref 84), some (.int v1), some (.int v2), some (.int v3), z4], [], M3) o
      exact (ms_224_j125 hd h hA : mp_224_125 L xs (d + 1) v1 v2 v3 M3 o) z4
    · replace h := mm_iq hc h
      exact (ms_224_j125 hd h hA : mp_224_125 L xs (d + 1) v1 v2 v3 (mm_pi M2 84 30 r1.toInt32) o) z4
  · replace h := mm_iq hc h
    exact (ms_224_j125 hd h hA : mp_224_125 L xs (d + 1) v1 v2 v3 (mm_pi M2 84 30 r1.toInt32) o) z4
noncomputable def mf_224_j92 (v1 : Int32) (v2 : Int32) (v3 : Int32) (M : mm_M) : mm_O Int32 := mm_B (mf_190 M) (fun _ M1 => mf_224_j96 v1 v2 v3 M1)
set_option maxRecDepth 8000 in
set_option maxHeartbeats 4000000 in
theorem ms_224_j92 {L : Nat} {xs : Nat → Int32} {d : Nat} (hd : 5 ≤ d) {v1 : Int32} {v2 : Int32} {v3 : Int32} {M : mm_M} {q : (Int32 ⊕ Nat) × mm_M} {o : mm_E} (h : mf_224_j92 v1 v2 v3 M = some q) (hA : mm_A (mm_Kr mm_wi) q o) : mp_224_92 L xs d v1 v2 v3 M o := by
  unfold mf_224_j92 at h
  obtain ⟨d, rfl⟩ := mm_d1 (n := 4) hd
  intro z4
  show mm_Runs L xs (d + 1) 224 (92, [some (.ref 84), some (.int v1), some (.int v2), some (.int v3), z4], [], M) o
  refine mm_Runs.seq (l := [(92, .aload_n 0, 1)]) (S2 := (93, [some (.ref 84), some (.int v1), some (.int v2), some (.int v3), z4], [.ref 84], M)) (by decide +kernel) (hO := mm_own_224) rfl ?_
  refine mm_R_call (v := mm_wv) h hA (k2 := 190) (as := [.ref 84]) (r := []) rfl (fun _ => rfl) (fun q hq o ho => ms_190 (by omega) hq ho) (fun _ M1 h => ?_)
  show mm_Runs L xs (d + 1) 224 (96, [some (.ref 84), some (.int v1), some (.int v2), some (.int v3), z4], [], M1) o
  exact (ms_224_j96 hd h hA : mp_224_96 L xs (d + 1) v1 v2 v3 M1 o) z4
noncomputable def mf_224_j41 (v1 : Int32) (M : mm_M) : mm_O Int32 := mm_B (mf_198 (24 : Int32) M) (fun r1 M2 => mm_B (mf_225 M2) (fun _ M3 => mm_B (mf_198 (3 : Int32) M3) (fun r4 M5 => if (M5.1 84 7) = 0 then (if r4.toInt32 < (2 : Int32) then (mf_224_j92 v1 r1.toInt32 (M3.1 84 20) (mm_pi M5 84 29 r4.toInt32)) else (if (6 : Int32) < r4.toInt32 then (mf_224_j92 v1 r1.toInt32 (M3.1 84 20) (mm_pi M5 84 29 r4.toInt32)) else (mf_224_j96 v1 r1.toInt32 (M3.1 84 20) (mm_pi M5 84 29 r4.toInt32)))) else (mf_224_j96 v1 r1.toInt32 (M3.1 84 20) (mm_pi M5 84 29 r4.toInt32)))))
set_option maxRecDepth 8000 in
set_option maxHeartbeats 4000000 in
theorem ms_224_j41 {L : Nat} {xs : Nat → Int32} {d : Nat} (hd : 5 ≤ d) {v1 : Int32} {M : mm_M} {q : (Int32 ⊕ Nat) × mm_M} {o : mm_E} (h : mf_224_j41 v1 M = some q) (hA : mm_A (mm_Kr mm_wi) q o) : mp_224_41 L xs d v1 M o := by
  unfold mf_224_j41 at h
  obtain ⟨d, rfl⟩ := mm_d1 (n := 4) hd
  intro z2 z3 z4
  show mm_Runs L xs (d + 1) 224 (41, [some (.ref 84), some (.int v1), z2, z3, z4], [], M) o
  refine mm_Runs.seq (l := [(41, .aload_n 0, 1), (42, .bipush 24, 2)]) (S2 := (44, [some (.ref 84), some (.int v1), z2, z3, z4], [.int (24 : Int32), .ref 84], M)) (by decide +kernel) (hO := mm_own_224) rfl ?_
  refine mm_R_call (v := mm_wl) h hA (k2 := 198) (as := [.ref 84, .int (24 : Int32)]) (r := []) rfl (fun _ => rfl) (fun q hq o ho => ms_198 (by omega) hq ho) (fun r1 M2 h => ?_)
  show mm_Runs L xs (d + 1) 224 (47, [some (.ref 84), some (.int v1), z2, z3, z4], [.long r1], M2) o
  refine mm_Runs.seq (l := [(47, .l2i, 1), (48, .istore_n 2, 1), (49, .aload_n 0, 1)]) (S2 := (50, [some (.ref 84), some (.int v1), some (.int r1.toInt32), z3, z4], [.ref 84], M2)) (by decide +kernel) (hO := mm_own_224) rfl ?_
  refine mm_R_call (v := mm_wv) h hA (k2 := 225) (as := [.ref 84]) (r := []) rfl (fun _ => rfl) (fun q hq o ho => ms_225 (by omega) hq ho) (fun _ M3 h => ?_)
  show mm_Runs L xs (d + 1) 224 (53, [some (.ref 84), some (.int v1), some (.int r1.toInt32), z3, z4], [], M3) o
  refine mm_Runs.seq (l := [(53, .aload_n 0, 1), (54, .getfield 215, 3), (57, .istore_n 3, 1), (58, .aload_n 0, 1), (59, .aload_n 0, 1), (60, .iconst 3, 1)]) (S2 := (61, [some (.ref 84), some (.int v1), some (.int r1.toInt32), some (.int (M3.1 84 20)), z4], [.int (3 : Int32), .ref 84, .ref 84], M3)) (by decide +kernel) (hO := mm_own_224) rfl ?_
  refine mm_R_call (v := mm_wl) h hA (k2 := 198) (as := [.ref 84, .int (3 : Int32)]) (r := [.ref 84]) rfl (fun _ => rfl) (fun q hq o ho => ms_198 (by omega) hq ho) (fun r4 M5 h => ?_)
  show mm_Runs L xs (d + 1) 224 (64, [some (.ref 84), some (.int v1), some (.int r1.toInt32), some (.int (M3.1 84 20)), z4], [.long r4, .ref 84], M5) o
  refine mm_Runs.seq (l := [(64, .l2i, 1), (65, .putfield 292, 3), (68, .aload_n 0, 1), (69, .getfield 154, 3)]) (S2 := (72, [some (.ref 84), some (.int v1), some (.int r1.toInt32), some (.int (M3.1 84 20)), z4], [.int (M5.1 84 7)], (mm_pi M5 84 29 r4.toInt32))) (by decide +kernel) (hO := mm_own_224) rfl ?_
  refine mm_R_zne (t := 96) rfl rfl rfl (fun hc => ?_) (fun hc => ?_)
  · replace h := mm_ip hc h
    refine mm_Runs.seq (l := [(75, .aload_n 0, 1), (76, .getfield 292, 3), (79, .iconst 2, 1)]) (S2 := (80, [some (.ref 84), some (.int v1), some (.int r1.toInt32), some (.int (M3.1 84 20)), z4], [.int (2 : Int32), .int r4.toInt32], (mm_pi M5 84 29 r4.toInt32))) (by decide +kernel) (hO := mm_own_224) rfl ?_
    refine mm_R_ilt (t := 92) rfl rfl rfl (fun hc => ?_) (fun hc => ?_)
    · replace h := mm_ip hc h
      exact (ms_224_j92 hd h hA : mp_224_92 L xs (d + 1) v1 r1.toInt32 (M3.1 84 20) (mm_pi M5 84 29 r4.toInt32) o) z4
    · replace h := mm_iq hc h
      refine mm_Runs.seq (l := [(83, .aload_n 0, 1), (84, .getfield 292, 3), (87, .bipush 6, 2)]) (S2 := (89, [some (.ref 84), some (.int v1), some (.int r1.toInt32), some (.int (M3.1 84 20)), z4], [.int (6 : Int32), .int r4.toInt32], (mm_pi M5 84 29 r4.toInt32))) (by decide +kernel) (hO := mm_own_224) rfl ?_
      refine mm_R_ile (t := 96) rfl rfl rfl (fun hc => ?_) (fun hc => ?_)
      · replace h := mm_ip hc h
        exact (ms_224_j92 hd h hA : mp_224_92 L xs (d + 1) v1 r1.toInt32 (M3.1 84 20) (mm_pi M5 84 29 r4.toInt32) o) z4
      · replace h := mm_iq hc h
        exact (ms_224_j96 hd h hA : mp_224_96 L xs (d + 1) v1 r1.toInt32 (M3.1 84 20) (mm_pi M5 84 29 r4.toInt32) o) z4
  · replace h := mm_iq hc h
    exact (ms_224_j96 hd h hA : mp_224_96 L xs (d + 1) v1 r1.toInt32 (M3.1 84 20) (mm_pi M5 84 29 r4.toInt32) o) z4
noncomputable def mf_224 (M : mm_M) : mm_O Int32 := mm_B (mf_198 (32 : Int32) M) (fun r1 M2 => if (M2.1 84 7) = 0 then (mm_B (mf_198 (1 : Int32) (mm_pi M2 84 12 ((M2.1 84 12) + (1 : Int32)))) (fun r3 M4 => if r3 = (1 : Int64) then (mm_B (mf_190 M4) (fun _ M5 => mf_224_j41 r1.toInt32 M5)) else (mf_224_j41 r1.toInt32 M4))) else (some (.inl (0 : Int32), M2)))
set_option maxRecDepth 8000 in
set_option maxHeartbeats 4000000 in
theorem ms_224 {L : Nat} {xs : Nat → Int32} {d : Nat} (hd : 5 ≤ d) {M : mm_M} {q : (Int32 ⊕ Nat) × mm_M} {o : mm_E} (h : mf_224 M = some q) (hA : mm_A (mm_Kr mm_wi) q o) : mm_Runs L xs d 224 (0, mm_ent (mm_ml 224) [.ref 84], [], M) o := by
  unfold mf_224 at h
  obtain ⟨d, rfl⟩ := mm_d1 (n := 4) hd
  show mm_Runs L xs (d + 1) 224 (0, [some (.ref 84), none, none, none, none], [], M) o
  refine mm_Runs.seq (l := [(0, .aload_n 0, 1), (1, .bipush 32, 2)]) (S2 := (3, [some (.ref 84), none, none, none, none], [.int (32 : Int32), .ref 84], M)) (by decide +kernel) (hO := mm_own_224) rfl ?_
  refine mm_R_call (v := mm_wl) h hA (k2 := 198) (as := [.ref 84, .int (32 : Int32)]) (r := []) rfl (fun _ => rfl) (fun q hq o ho => ms_198 (by omega) hq ho) (fun r1 M2 h => ?_)
  show mm_Runs L xs (d + 1) 224 (6, [some (.ref 84), none, none, none, none], [.long r1], M2) o
  refine mm_Runs.seq (l := [(6, .l2i, 1), (7, .istore_n 1, 1), (8, .aload_n 0, 1), (9, .getfield 154, 3)]) (S2 := (12, [some (.ref 84), some (.int r1.toInt32), none, none, none], [.int (M2.1 84 7)], M2)) (by decide +kernel) (hO := mm_own_224) rfl ?_
  refine mm_R_zeq (t := 17) rfl rfl rfl (fun hc => ?_) (fun hc => ?_)
  · replace h := mm_ip hc h
    refine mm_Runs.seq (l := [(17, .aload_n 0, 1), (18, .dup, 1), (19, .getfield 116, 3), (22, .iconst 1, 1), (23, .iadd, 1), (24, .putfield 116, 3), (27, .aload_n 0, 1), (28, .iconst 1, 1)]) (S2 := (29, [some (.ref 84), some (.int r1.toInt32), none, none, none], [.int (1 : Int32), .ref 84], (mm_pi M2 84 12 ((M2.1 84 12) + (1 : Int32))))) (by decide +kernel) (hO := mm_own_224) rfl ?_
    refine mm_R_call (v := mm_wl) h hA (k2 := 198) (as := [.ref 84, .int (1 : Int32)]) (r := []) rfl (fun _ => rfl) (fun q hq o ho => ms_198 (by omega) hq ho) (fun r3 M4 h => ?_)
    show mm_Runs L xs (d + 1) 224 (32, [some (.ref 84), some (.int r1.toInt32), none, none, none], [.long r3], M4) o
    refine mm_Runs.seq (l := [(32, .lconst 1, 1)]) (S2 := (33, [some (.ref 84), some (.int r1.toInt32), none, none, none], [.long (1 : Int64), .long r3], M4)) (by decide +kernel) (hO := mm_own_224) rfl ?_
    refine mm_R_lne (t := 41) rfl rfl rfl rfl (fun hc => ?_) (fun hc => ?_)
    · replace h := mm_ip hc h
      refine mm_Runs.seq (l := [(37, .aload_n 0, 1)]) (S2 := (38, [some (.ref 84), some (.int r1.toInt32), none, none, none], [.ref 84], M4)) (by decide +kernel) (hO := mm_own_224) rfl ?_
      refine mm_R_call (v := mm_wv) h hA (k2 := 190) (as := [.ref 84]) (r := []) rfl (fun _ => rfl) (fun q hq o ho => ms_190 (by omega) hq ho) (fun _ M5 h => ?_)
      show mm_Runs L xs (d + 1) 224 (41, [some (.ref 84), some (.int r1.toInt32), none, none, none], [], M5) o
      exact (ms_224_j41 hd h hA : mp_224_41 L xs (d + 1) r1.toInt32 M5 o) none none none
    · replace h := mm_iq hc h
      exact (ms_224_j41 hd h hA : mp_224_41 L xs (d + 1) r1.toInt32 M4 o) none none none
  · replace h := mm_iq hc h
    refine mm_Runs.seq (l := [(15, .iconst 0, 1)]) (S2 := (16, [some (.ref 84), some (.int r1.toInt32), none, none, none], [.int (0 : Int32)], M2)) (by decide +kernel) (hO := mm_own_224) rfl ?_
    cases h
    exact mm_R_reti rfl rfl hA
