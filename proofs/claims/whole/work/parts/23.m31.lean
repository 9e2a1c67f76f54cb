/-! MEANINGS 31 -/
-- 67: PlainPacks$Turnings.orderByRank(I)V (depth 0)
theorem mm_own_67 : mm_own 67 = 4 := rfl
def mp_67_2 (L : Nat) (xs : Nat → Int32) (d : Nat) (v1 : Int32) (v2 : Int32) (M : mm_M) (o : mm_E) : Prop := ∀ z3 : Option Value, mm_Runs L xs d 67 (2, [some (.ref 7), some (.int v1), some (.int v2), z3], [], M) o
def mp_67_29 (L : Nat) (xs : Nat → Int32) (d : Nat) (v1 : Int32) (M : mm_M) (o : mm_E) : Prop := ∀ z2 z3 : Option Value, mm_Runs L xs d 67 (29, [some (.ref 7), some (.int v1), z2, z3], [], M) o
noncomputable def mf_67_b2 (v1 : Int32) (v2 : Int32) (M : mm_M) : mm_O ((Int32) ⊕ (Unit)) := if v1 < v2 then (some (.inl (.inr ()), M)) else (if v2 < (12501 : Int32) then (if mm_in v2 12501 then some (.inl (.inl (v2 + (1 : Int32))), (mm_pi M 12 v2.toNatClampNeg (0 : Int32))) else none) else (some (.inl (.inr ()), M)))
noncomputable def mf_67_L2 (v1 : Int32) (s : Int32) (M : mm_M) : mm_O (Unit) := mm_L (fun s M => mf_67_b2 v1 s M) s M
set_option maxRecDepth 8000 in
set_option maxHeartbeats 4000000 in
theorem ms_67_b2 {L : Nat} {xs : Nat → Int32} {d : Nat} (hd : 0 ≤ d) {v1 : Int32} {v2 : Int32} {M : mm_M} {q : (((Int32) ⊕ (Unit)) ⊕ Nat) × mm_M} {o : mm_E} (h : mf_67_b2 v1 v2 M = some q) (hA : mm_A (mm_K2 (fun s M o => mp_67_2 L xs (d) v1 s M o) (fun r M o => mp_67_29 L xs (d) v1 M o)) q o) : mp_67_2 L xs d v1 v2 M o := by
  unfold mf_67_b2 at h
  intro z3
  show mm_Runs L xs (d) 67 (2, [some (.ref 7), some (.int v1), some (.int v2), z3], [], M) o
  refine mm_Runs.seq (l := [(2, .iload_n 2, 1), (3, .iload_n 1, 1)]) (S2 := (4, [some (.ref 7), some (.int v1), some (.int v2), z3], [.int v1, .int v2], M)) (by decide +kernel) (hO := mm_own_67) rfl ?_
  refine mm_R_igt (t := 29) rfl rfl rfl (fun hc => ?_) (fun hc => ?_)
  · replace h := mm_ip hc h
    cases h
    exact (show mp_67_29 L xs (d) v1 M o from hA) (some (.int v2)) z3
  · replace h := mm_iq hc h
    refine mm_Runs.seq (l := [(7, .iload_n 2, 1), (8, .aload_n 0, 1), (9, .getfield 24, 3), (12, .arraylength, 1)]) (S2 := (13, [some (.ref 7), some (.int v1), some (.int v2), z3], [.int (12501 : Int32), .int v2], M)) (by decide +kernel) (hO := mm_own_67) rfl ?_
    refine mm_R_ige (t := 29) rfl rfl rfl (fun hc => ?_) (fun hc => ?_)
    · replace h := mm_ip hc h
      refine mm_Runs.seq (l := [(16, .aload_n 0, 1), (17, .getfield 24, 3), (20, .iload_n 2, 1), (21, .iconst 0, 1)]) (S2 := (22, [some (.ref 7), some (.int v1), some (.int v2), z3], [.int (0 : Int32), .int v2, .ref 12], M)) (by decide +kernel) (hO := mm_own_67) rfl ?_
      obtain ⟨hb, h⟩ := mm_gd h
      refine mm_R_iast rfl rfl hb ?_
      refine mm_Runs.seq (l := [(23, .iinc 2 1, 3), (26, .goto (-24), 3)]) (S2 := (2, [some (.ref 7), some (.int v1), some (.int (v2 + (1 : Int32))), z3], [], (mm_pi M 12 v2.toNatClampNeg (0 : Int32)))) (by decide +kernel) (hO := mm_own_67) rfl ?_
      cases h
      exact (show mp_67_2 L xs (d) v1 (v2 + (1 : Int32)) (mm_pi M 12 v2.toNatClampNeg (0 : Int32)) o from hA) z3
    · replace h := mm_iq hc h
      cases h
      exact (show mp_67_29 L xs (d) v1 M o from hA) (some (.int v2)) z3
theorem ms_67_L2 {L : Nat} {xs : Nat → Int32} {d : Nat} (hd : 0 ≤ d) {v1 : Int32} {v2 : Int32} {β : Type} {K : β → mm_M → mm_E → Prop} {F : (Unit) → mm_M → mm_O β} {M : mm_M} {q : (β ⊕ Nat) × mm_M} {o : mm_E} (h : mm_B (mf_67_L2 v1 v2 M) F = some q) (hA : mm_A K q o) (hx : ∀ (r : (Unit)) (M2 : mm_M), F r M2 = some q → (fun r M o => mp_67_29 L xs (d) v1 M o) r M2 o) : mp_67_2 L xs d v1 v2 M o := mm_R_loop (s := v2) (M := M) (P := (fun s M o => mp_67_2 L xs (d) v1 s M o)) (X := (fun r M o => mp_67_29 L xs (d) v1 M o)) h hA (fun s M q hq hA => ms_67_b2 hd hq hA) hx
def mp_67_31 (L : Nat) (xs : Nat → Int32) (d : Nat) (v1 : Int32) (v2 : Int32) (M : mm_M) (o : mm_E) : Prop := ∀ z3 : Option Value, mm_Runs L xs d 67 (31, [some (.ref 7), some (.int v1), some (.int v2), z3], [], M) o
def mp_67_62 (L : Nat) (xs : Nat → Int32) (d : Nat) (v1 : Int32) (M : mm_M) (o : mm_E) : Prop := ∀ z2 z3 : Option Value, mm_Runs L xs d 67 (62, [some (.ref 7), some (.int v1), z2, z3], [], M) o
noncomputable def mf_67_b31 (v1 : Int32) (v2 : Int32) (M : mm_M) : mm_O ((Int32) ⊕ (Unit)) := if v2 < (M.1 7 5) then (if mm_in v2 12500 then if mm_in ((M.1 9 v2.toNatClampNeg) + (1 : Int32)) 12501 then if mm_in ((M.1 9 v2.toNatClampNeg) + (1 : Int32)) 12501 then some (.inl (.inl (v2 + (1 : Int32))), (mm_pi M 12 ((M.1 9 v2.toNatClampNeg) + (1 : Int32)).toNatClampNeg ((M.1 12 ((M.1 9 v2.toNatClampNeg) + (1 : Int32)).toNatClampNeg) + (1 : Int32)))) else none else none else none) else (some (.inl (.inr ()), M))
noncomputable def mf_67_L31 (v1 : Int32) (s : Int32) (M : mm_M) : mm_O (Unit) := mm_L (fun s M => mf_67_b31 v1 s M) s M
set_option maxRecDepth 8000 in
set_option maxHeartbeats 4000000 in
theorem ms_67_b31 {L : Nat} {xs : Nat → Int32} {d : Nat} (hd : 0 ≤ d) {v1 : Int32} {v2 : Int32} {M : mm_M} {q : (((Int32) ⊕ (Unit)) ⊕ Nat) × mm_M} {o : mm_E} (h : mf_67_b31 v1 v2 M = some q) (hA : mm_A (mm_K2 (fun s M o => mp_67_31 L xs (d) v1 s M o) (fun r M o => mp_67_62 L xs (d) v1 M o)) q o) : mp_67_31 L xs d v1 v2 M o := by
  unfold mf_67_b31 at h
  intro z3
  show mm_Runs L xs (d) 67 (31, [some (.ref 7), some (.int v1), some (.int v2), z3], [], M) o
  refine mm_Runs.seq (l := [(31, .iload_n 2, 1), (32, .aload_n 0, 1), (33, .getfield 33, 3)]) (S2 := (36, [some (.ref 7), some (.int v1), some (.int v2), z3], [.int (M.1 7 5), .int v2], M)) (by decide +kernel) (hO := mm_own_67) rfl ?_
  refine mm_R_ige (t := 62) rfl rfl rfl (fun hc => ?_) (fun hc => ?_)
  · replace h := mm_ip hc h
    refine mm_Runs.seq (l := [(39, .aload_n 0, 1), (40, .getfield 24, 3), (43, .aload_n 0, 1), (44, .getfield 15, 3), (47, .iload_n 2, 1)]) (S2 := (48, [some (.ref 7), some (.int v1), some (.int v2), z3], [.int v2, .ref 9, .ref 12], M)) (by decide +kernel) (hO := mm_own_67) rfl ?_
    obtain ⟨hb, h⟩ := mm_gd h
    refine mm_R_iald rfl rfl hb ?_
    refine mm_Runs.seq (l := [(49, .iconst 1, 1), (50, .iadd, 1), (51, .dup2, 1)]) (S2 := (52, [some (.ref 7), some (.int v1), some (.int v2), z3], [.int ((M.1 9 v2.toNatClampNeg) + (1 : Int32)), .ref 12, .int ((M.1 9 v2.toNatClampNeg) + (1 : Int32)), .ref 12], M)) (by decide +kernel) (hO := mm_own_67) rfl ?_
    obtain ⟨hb, h⟩ := mm_gd h
    refine mm_R_iald rfl rfl hb ?_
    refine mm_Runs.seq (l := [(53, .iconst 1, 1), (54, .iadd, 1)]) (S2 := (55, [some (.ref 7), some (.int v1), some (.int v2), z3], [.int ((M.1 12 ((M.1 9 v2.toNatClampNeg) + (1 : Int32)).toNatClampNeg) + (1 : Int32)), .int ((M.1 9 v2.toNatClampNeg) + (1 : Int32)), .ref 12], M)) (by decide +kernel) (hO := mm_own_67) rfl ?_
    obtain ⟨hb, h⟩ := mm_gd h
    refine mm_R_iast rfl rfl hb ?_
    refine mm_Runs.seq (l := [(56, .iinc 2 1, 3), (59, .goto (-28), 3)]) (S2 := (31, [some (.ref 7), some (.int v1), some (.int (v2 + (1 : Int32))), z3], [], (mm_pi M 12 ((M.1 9 v2.toNatClampNeg) + (1 : Int32)).toNatClampNeg ((M.1 12 ((M.1 9 v2.toNatClampNeg) + (1 : Int32)).toNatClampNeg) + (1 : Int32))))) (by decide +kernel) (hO := mm_own_67) rfl ?_
    cases h
    exact (show mp_67_31 L xs (d) v1 (v2 + (1 : Int32)) (mm_pi M 12 ((M.1 9 v2.toNatClampNeg) + (1 : Int32)).toNatClampNeg ((M.1 12 ((M.1 9 v2.toNatClampNeg) + (1 : Int32)).toNatClampNeg) + (1 : Int32))) o from hA) z3
  · replace h := mm_iq hc h
    cases h
    exact (show mp_67_62 L xs (d) v1 M o from hA) (some (.int v2)) z3
theorem ms_67_L31 {L : Nat} {xs : Nat → Int32} {d : Nat} (hd : 0 ≤ d) {v1 : Int32} {v2 : Int32} {β : Type} {K : β → mm_M → mm_E → Prop} {F : (Unit) → mm_M → mm_O β} {M : mm_M} {q : (β ⊕ Nat) × mm_M} {o : mm_E} (h : mm_B (mf_67_L31 v1 v2 M) F = some q) (hA : mm_A K q o) (hx : ∀ (r : (Unit)) (M2 : mm_M), F r M2 = some q → (fun r M o => mp_67_62 L xs (d) v1 M o) r M2 o) : mp_67_31 L xs d v1 v2 M o := mm_R_loop (s := v2) (M := M) (P := (fun s M o => mp_67_31 L xs (d) v1 s M o)) (X := (fun r M o => mp_67_62 L xs (d) v1 M o)) h hA (fun s M q hq hA => ms_67_b31 hd hq hA) hx
def mp_67_64 (L : Nat) (xs : Nat → Int32) (d : Nat) (v1 : Int32) (v2 : Int32) (M : mm_M) (o : mm_E) : Prop := ∀ z3 : Option Value, mm_Runs L xs d 67 (64, [some (.ref 7), some (.int v1), some (.int v2), z3], [], M) o
def mp_67_101 (L : Nat) (xs : Nat → Int32) (d : Nat) (M : mm_M) (o : mm_E) : Prop := ∀ z1 z2 z3 : Option Value, mm_Runs L xs d 67 (101, [some (.ref 7), z1, z2, z3], [], M) o
noncomputable def mf_67_b64 (v1 : Int32) (v2 : Int32) (M : mm_M) : mm_O ((Int32) ⊕ (Unit)) := if v1 < v2 then (some (.inl (.inr ()), M)) else (if v2 < (12501 : Int32) then (if mm_in v2 12501 then if mm_in (v2 - (1 : Int32)) 12501 then if mm_in v2 12501 then some (.inl (.inl (v2 + (1 : Int32))), (mm_pi M 12 v2.toNatClampNeg ((M.1 12 v2.toNatClampNeg) + (M.1 12 (v2 - (1 : Int32)).toNatClampNeg)))) else none else none else none) else (some (.inl (.inr ()), M)))
noncomputable def mf_67_L64 (v1 : Int32) (s : Int32) (M : mm_M) : mm_O (Unit) := mm_L (fun s M => mf_67_b64 v1 s M) s M
set_option maxRecDepth 8000 in
set_option maxHeartbeats 4000000 in
theorem ms_67_b64 {L : Nat} {xs : Nat → Int32} {d : Nat} (hd : 0 ≤ d) {v1 : Int32} {v2 : Int32} {M : mm_M} {q : (((Int32) ⊕ (Unit)) ⊕ Nat) × mm_M} {o : mm_E} (h : mf_67_b64 v1 v2 M = some q) (hA : mm_A (mm_K2 (fun s M o => mp_67_64 L xs (d) v1 s M o) (fun r M o => mp_67_101 L xs (d) M o)) q o) : mp_67_64 L xs d v1 v2 M o := by
  unfold mf_67_b64 at h
  intro z3
  show mm_Runs L xs (d) 67 (64, [some (.ref 7), some (.int v1), some (.int v2), z3], [], M) o
  refine mm_Runs.seq (l := [(64, .iload_n 2, 1), (65, .iload_n 1, 1)]) (S2 := (66, [some (.ref 7), some (.int v1), some (.int v2), z3], [.int v1, .int v2], M)) (by decide +kernel) (hO := mm_own_67) rfl ?_
  refine mm_R_igt (t := 101) rfl rfl rfl (fun hc => ?_) (fun hc => ?_)
  · replace h := mm_ip hc h
    cases h
    exact (show mp_67_101 L xs (d) M o from hA) (some (.int v1)) (some (.int v2)) z3
  · replace h := mm_iq hc h
    refine mm_Runs.seq (l := [(69, .iload_n 2, 1), (70, .aload_n 0, 1), (71, .getfield 24, 3), (74, .arraylength, 1)]) (S2 := (75, [some (.ref 7), some (.int v1), some (.int v2), z3], [.int (12501 : Int32), .int v2], M)) (by decide +kernel) (hO := mm_own_67) rfl ?_
    refine mm_R_ige (t := 101) rfl rfl rfl (fun hc => ?_) (fun hc => ?_)
    · replace h := mm_ip hc h
      refine mm_Runs.seq (l := [(78, .aload_n 0, 1), (79, .getfield 24, 3), (82, .iload_n 2, 1), (83, .dup2, 1)]) (S2 := (84, [some (.ref 7), some (.int v1), some (.int v2), z3], [.int v2, .ref 12, .int v2, .ref 12], M)) (by decide +kernel) (hO := mm_own_67) rfl ?_
      obtain ⟨hb, h⟩ := mm_gd h
      refine mm_R_iald rfl rfl hb ?_
      refine mm_Runs.seq (l := [(85, .aload_n 0, 1), (86, .getfield 24, 3), (89, .iload_n 2, 1), (90, .iconst 1, 1), (91, .isub, 1)]) (S2 := (92, [some (.ref 7), some (.int v1), some (.int v2), z3], [.int (v2 - (1 : Int32)), .ref 12, .int (M.1 12 v2.toNatClampNeg), .int v2, .ref 12], M)) (by decide +kernel) (hO := mm_own_67) rfl ?_
      obtain ⟨hb, h⟩ := mm_gd h
      refine mm_R_iald rfl rfl hb ?_
      refine mm_Runs.seq (l := [(93, .iadd, 1)]) (S2 := (94, [some (.ref 7), some (.int v1), some (.int v2), z3], [.int ((M.1 12 v2.toNatClampNeg) + (M.1 12 (v2 - (1 : Int32)).toNatClampNeg)), .int v2, .ref 12], M)) (by decide +kernel) (hO := mm_own_67) rfl ?_
      obtain ⟨hb, h⟩ := mm_gd h
      refine mm_R_iast rfl rfl hb ?_
      refine mm_Runs.seq (l := [(95, .iinc 2 1, 3), (98, .goto (-34), 3)]) (S2 := (64, [some (.ref 7), some (.int v1), some (.int (v2 + (1 : Int32))), z3], [], (mm_pi M 12 v2.toNatClampNeg ((M.1 12 v2.toNatClampNeg) + (M.1 12 (v2 - (1 : Int32)).toNatClampNeg))))) (by decide +kernel) (hO := mm_own_67) rfl ?_
      cases h
      exact (show mp_67_64 L xs (d) v1 (v2 + (1 : Int32)) (mm_pi M 12 v2.toNatClampNeg ((M.1 12 v2.toNatClampNeg) + (M.1 12 (v2 - (1 : Int32)).toNatClampNeg))) o from hA) z3
    · replace h := mm_iq hc h
      cases h
      exact (show mp_67_101 L xs (d) M o from hA) (some (.int v1)) (some (.int v2)) z3
theorem ms_67_L64 {L : Nat} {xs : Nat → Int32} {d : Nat} (hd : 0 ≤ d) {v1 : Int32} {v2 : Int32} {β : Type} {K : β → mm_M → mm_E → Prop} {F : (Unit) → mm_M → mm_O β} {M : mm_M} {q : (β ⊕ Nat) × mm_M} {o : mm_E} (h : mm_B (mf_67_L64 v1 v2 M) F = some q) (hA : mm_A K q o) (hx : ∀ (r : (Unit)) (M2 : mm_M), F r M2 = some q → (fun r M o => mp_67_101 L xs (d) M o) r M2 o) : mp_67_64 L xs d v1 v2 M o := mm_R_loop (s := v2) (M := M) (P := (fun s M o => mp_67_64 L xs (d) v1 s M o)) (X := (fun r M o => mp_67_101 L xs (d) M o)) h hA (fun s M q hq hA => ms_67_b64 hd hq hA) hx
def mp_67_103 (L : Nat) (xs : Nat → Int32) (d : Nat) (v2 : Int32) (M : mm_M) (o : mm_E) : Prop := ∀ z1 z3 : Option Value, mm_Runs L xs d 67 (103, [some (.ref 7), z1, some (.int v2), z3], [], M) o
def mp_67_156 (L : Nat) (xs : Nat → Int32) (d : Nat) (M : mm_M) (o : mm_E) : Prop := ∀ z0 z1 z2 z3 : Option Value, mm_Runs L xs d 67 (156, [z0, z1, z2, z3], [], M) o
noncomputable def mf_67_b103 (v2 : Int32) (M : mm_M) : mm_O ((Int32) ⊕ (Unit)) := if v2 < (M.1 7 5) then (if mm_in v2 12500 then if mm_in (M.1 10 v2.toNatClampNeg) 12500 then if mm_in (M.1 9 (M.1 10 v2.toNatClampNeg).toNatClampNeg) 12501 then if mm_in v2 12500 then if mm_in (M.1 12 (M.1 9 (M.1 10 v2.toNatClampNeg).toNatClampNeg).toNatClampNeg) 12500 then if mm_in (M.1 9 (M.1 10 v2.toNatClampNeg).toNatClampNeg) 12501 then if mm_in (M.1 9 (M.1 10 v2.toNatClampNeg).toNatClampNeg) 12501 then some (.inl (.inl (v2 + (1 : Int32))), (mm_pi (mm_pi M 8 (M.1 12 (M.1 9 (M.1 10 v2.toNatClampNeg).toNatClampNeg).toNatClampNeg).toNatClampNeg (M.1 10 v2.toNatClampNeg)) 12 (M.1 9 (M.1 10 v2.toNatClampNeg).toNatClampNeg).toNatClampNeg ((M.1 12 (M.1 9 (M.1 10 v2.toNatClampNeg).toNatClampNeg).toNatClampNeg) + (1 : Int32)))) else none else none else none else none else none else none else none) else (some (.inl (.inr ()), M))
noncomputable def mf_67_L103 (s : Int32) (M : mm_M) : mm_O (Unit) := mm_L (fun s M => mf_67_b103 s M) s M
set_option maxRecDepth 8000 in
set_option maxHeartbeats 4000000 in
theorem ms_67_b103 {L : Nat} {xs : Nat → Int32} {d : Nat} (hd : 0 ≤ d) {v2 : Int32} {M : mm_M} {q : (((Int32) ⊕ (Unit)) ⊕ Nat) × mm_M} {o : mm_E} (h : mf_67_b103 v2 M = some q) (hA : mm_A (mm_K2 (fun s M o => mp_67_103 L xs (d) s M o) (fun r M o => mp_67_156 L xs (d) M o)) q o) : mp_67_103 L xs d v2 M o := by
  unfold mf_67_b103 at h
  intro z1 z3
  show mm_Runs L xs (d) 67 (103, [some (.ref 7), z1, some (.int v2), z3], [], M) o
  refine mm_Runs.seq (l := [(103, .iload_n 2, 1), (104, .aload_n 0, 1), (105, .getfield 33, 3)]) (S2 := (108, [some (.ref 7), z1, some (.int v2), z3], [.int (M.1 7 5), .int v2], M)) (by decide +kernel) (hO := mm_own_67) rfl ?_
  refine mm_R_ige (t := 156) rfl rfl rfl (fun hc => ?_) (fun hc => ?_)
  · replace h := mm_ip hc h
    refine mm_Runs.seq (l := [(111, .aload_n 0, 1), (112, .getfield 15, 3), (115, .aload_n 0, 1), (116, .getfield 18, 3), (119, .iload_n 2, 1)]) (S2 := (120, [some (.ref 7), z1, some (.int v2), z3], [.int v2, .ref 10, .ref 9], M)) (by decide +kernel) (hO := mm_own_67) rfl ?_
    obtain ⟨hb, h⟩ := mm_gd h
    refine mm_R_iald rfl rfl hb ?_
    obtain ⟨hb, h⟩ := mm_gd h
    refine mm_R_iald rfl rfl hb ?_
    refine mm_Runs.seq (l := [(122, .istore_n 3, 1), (123, .aload_n 0, 1), (124, .getfield 9, 3), (127, .aload_n 0, 1), (128, .getfield 24, 3), (131, .iload_n 3, 1)]) (S2 := (132, [some (.ref 7), z1, some (.int v2), some (.int (M.1 9 (M.1 10 v2.toNatClampNeg).toNatClampNeg))], [.int (M.1 9 (M.1 10 v2.toNatClampNeg).toNatClampNeg), .ref 12, .ref 8], M)) (by decide +kernel) (hO := mm_own_67) rfl ?_
    obtain ⟨hb, h⟩ := mm_gd h
    refine mm_R_iald rfl rfl hb ?_
    refine mm_Runs.seq (l := [(133, .aload_n 0, 1), (134, .getfield 18, 3), (137, .iload_n 2, 1)]) (S2 := (138, [some (.ref 7), z1, some (.int v2), some (.int (M.1 9 (M.1 10 v2.toNatClampNeg).toNatClampNeg))], [.int v2, .ref 10, .int (M.1 12 (M.1 9 (M.1 10 v2.toNatClampNeg).toNatClampNeg).toNatClampNeg), .ref 8], M)) (by decide +kernel) (hO := mm_own_67) rfl ?_
    obtain ⟨hb, h⟩ := mm_gd h
    refine mm_R_iald rfl rfl hb ?_
    obtain ⟨hb, h⟩ := mm_gd h
    refine mm_R_iast rfl rfl hb ?_
    refine mm_Runs.seq (l := [(140, .aload_n 0, 1), (141, .getfield 24, 3), (144, .iload_n 3, 1), (145, .dup2, 1)]) (S2 := (146, [some (.ref 7), z1, some (.int v2), some (.int (M.1 9 (M.1 10 v2.toNatClampNeg).toNatClampNeg))], [.int (M.1 9 (M.1 10 v2.toNatClampNeg).toNatClampNeg), .ref 12, .int (M.1 9 (M.1 10 v2.toNatClampNeg).toNatClampNeg), .ref 12], (mm_pi M 8 (M.1 12 (M.1 9 (M.1 10 v2.toNatClampNeg).toNatClampNeg).toNatClampNeg).toNatClampNeg (M.1 10 v2.toNatClampNeg)))) (by decide +kernel) (hO := mm_own_67) rfl ?_
    obtain ⟨hb, h⟩ := mm_gd h
    refine mm_R_iald rfl rfl hb ?_
    refine mm_Runs.seq (l := [(147, .iconst 1, 1), (148, .iadd, 1)]) (S2 := (149, [some (.ref 7), z1, some (.int v2), some (.int (M.1 9 (M.1 10 v2.toNatClampNeg).toNatClampNeg))], [.int ((M.1 12 (M.1 9 (M.1 10 v2.toNatClampNeg).toNatClampNeg).toNatClampNeg) + (1 : Int32)), .int (M.1 9 (M.1 10 v2.toNatClampNeg).toNatClampNeg), .ref 12], (mm_pi M 8 (M.1 12 (M.1 9 (M.1 10 v2.toNatClampNeg).toNatClampNeg).toNatClampNeg).toNatClampNeg (M.1 10 v2.toNatClampNeg)))) (by decide +kernel) (hO := mm_own_67) rfl ?_
    obtain ⟨hb, h⟩ := mm_gd h
    refine mm_R_iast rfl rfl hb ?_
    refine mm_Runs.seq (l := [(150, .iinc 2 1, 3), (153, .goto (-50), 3)]) (S2 := (103, [some (.ref 7), (mm_no2 z1), some (.int (v2 + (1 : Int32))), some (.int (M.1 9 (M.1 10 v2.toNatClampNeg).toNatClampNeg))], [], (mm_pi (mm_pi M 8 (M.1 12 (M.1 9 (M.1 10 v2.toNatClampNeg).toNatClampNeg).toNatClampNeg).toNatClampNeg (M.1 10 v2.toNatClampNeg)) 12 (M.1 9 (M.1 10 v2.toNatClampNeg).toNatClampNeg).toNatClampNeg ((M.1 12 (M.1 9 (M.1 10 v2.toNatClampNeg).toNatClampNeg).toNatClampNeg) + (1 : Int32))))) (by decide +kernel) (hO := mm_own_67) rfl ?_
    cases h
    exact (show mp_67_103 L xs (d) (v2 + (1 : Int32)) (mm_pi (mm_pi M 8 (M.1 12 (M.1 9 (M.1 10 v2.toNatClampNeg).toNatClampNeg).toNatClampNeg).toNatClampNeg (M.1 10 v2.toNatClampNeg)) 12 (M.1 9 (M.1 10 v2.toNatClampNeg).toNatClampNeg).toNatClampNeg ((M.1 12 (M.1 9 (M.1 10 v2.toNatClampNeg).toNatClampNeg).toNatClampNeg) + (1 : Int32))) o from hA) ((mm_no2 z1)) (some (.int (M.1 9 (M.1 10 v2.toNatClampNeg).toNatClampNeg)))
  · replace h := mm_iq hc h
    cases h
    exact (show mp_67_156 L xs (d) M o from hA) (some (.ref 7)) z1 (some (.int v2)) z3
theorem ms_67_L103 {L : Nat} {xs : Nat → Int32} {d : Nat} (hd : 0 ≤ d) {v2 : Int32} {β : Type} {K : β → mm_M → mm_E → Prop} {F : (Unit) → mm_M → mm_O β} {M : mm_M} {q : (β ⊕ Nat) × mm_M} {o : mm_E} (h : mm_B (mf_67_L103 v2 M) F = some q) (hA : mm_A K q o) (hx : ∀ (r : (Unit)) (M2 : mm_M), F r M2 = some q → (fun r M o => mp_67_156 L xs (d) M o) r M2 o) : mp_67_103 L xs d v2 M o := mm_R_loop (s := v2) (M := M) (P := (fun s M o => mp_67_103 L xs (d) s M o)) (X := (fun r M o => mp_67_156 L xs (d) M o)) h hA (fun s M q hq hA => ms_67_b103 hd hq hA) hx
noncomputable def mf_67 (v1 : Int32) (M : mm_M) : mm_O Unit := mm_B (mf_67_L2 v1 (0 : Int32) M) (fun r2 M1 => mm_B (mf_67_L31 v1 (0 : Int32) M1) (fun r6 M5 => mm_B (mf_67_L64 v1 (1 : Int32) M5) (fun r10 M9 => mm_B (mf_67_L103 (0 : Int32) M9) (fun r15 M14 => some (.inl (), M14)))))
set_option maxRecDepth 8000 in
set_option maxHeartbeats 4000000 in
theorem ms_67 {L : Nat} {xs : Nat → Int32} {d : Nat} (hd : 0 ≤ d) {v1 : Int32} {M : mm_M} {q : (Unit ⊕ Nat) × mm_M} {o : mm_E} (h : mf_67 v1 M = some q) (hA : mm_A (mm_Kr mm_wv) q o) : mm_Runs L xs d 67 (0, mm_ent (mm_ml 67) [.ref 7, .int v1], [], M) o := by
  unfold mf_67 at h
  show mm_Runs L xs (d) 67 (0, [some (.ref 7), some (.int v1), none, none], [], M) o
  refine mm_Runs.seq (l := [(0, .iconst 0, 1), (1, .istore_n 2, 1)]) (S2 := (2, [some (.ref 7), some (.int v1), some (.int (0 : Int32)), none], [], M)) (by decide +kernel) (hO := mm_own_67) rfl ?_
  have hp : mp_67_2 L xs (d) v1 (0 : Int32) M o := by
    refine ms_67_L2 hd h hA (fun r2 M1 h => ?_)
    intro y3 y4
    show mm_Runs L xs (d) 67 (29, [some (.ref 7), some (.int v1), y3, y4], [], M1) o
    refine mm_Runs.seq (l := [(29, .iconst 0, 1), (30, .istore_n 2, 1)]) (S2 := (31, [some (.ref 7), some (.int v1), some (.int (0 : Int32)), y4], [], M1)) (by decide +kernel) (hO := mm_own_67) rfl ?_
    have hp : mp_67_31 L xs (d) v1 (0 : Int32) M1 o := by
      refine ms_67_L31 hd h hA (fun r6 M5 h => ?_)
      intro y7 y8
      show mm_Runs L xs (d) 67 (62, [some (.ref 7), some (.int v1), y7, y8], [], M5) o
      refine mm_Runs.seq (l := [(62, .iconst 1, 1), (63, .istore_n 2, 1)]) (S2 := (64, [some (.ref 7), some (.int v1), some (.int (1 : Int32)), y8], [], M5)) (by decide +kernel) (hO := mm_own_67) rfl ?_
      have hp : mp_67_64 L xs (d) v1 (1 : Int32) M5 o := by
        refine ms_67_L64 hd h hA (fun r10 M9 h => ?_)
        intro y11 y12 y13
        show mm_Runs L xs (d) 67 (101, [some (.ref 7), y11, y12, y13], [], M9) o
        refine mm_Runs.seq (l := [(101, .iconst 0, 1), (102, .istore_n 2, 1)]) (S2 := (103, [some (.ref 7), (mm_no2 y11), some (.int (0 : Int32)), y13], [], M9)) (by decide +kernel) (hO := mm_own_67) rfl ?_
        have hp : mp_67_103 L xs (d) (0 : Int32) M9 o := by
          refine ms_67_L103 hd h hA (fun r15 M14 h => ?_)
          intro y16 y17 y18 y19
          show mm_Runs L xs (d) 67 (156, [y16, y17, y18, y19], [], M14) o
          cases h
          exact mm_R_retv rfl rfl hA
        exact hp ((mm_no2 y11)) y13
      exact hp y8
    exact hp y4
  exact hp none
-- 69: PlainPacks$Turnings.differ(III)Z (depth 0)
theorem mm_own_69 : mm_own 69 = 4 := rfl
def mp_69_24 (L : Nat) (xs : Nat → Int32) (d : Nat) (v1 : Int32) (v2 : Int32) (v3 : Int32) (s0 : Int32) (M : mm_M) (o : mm_E) : Prop := ∀ z4 z5 : Option Value, mm_Runs L xs d 69 (24, [some (.ref 7), some (.int v1), some (.int v2), some (.int v3), z4, z5], [.int s0], M) o
def mp_69_50 (L : Nat) (xs : Nat → Int32) (d : Nat) (v1 : Int32) (v2 : Int32) (v4 : Int32) (s0 : Int32) (M : mm_M) (o : mm_E) : Prop := ∀ z3 z5 : Option Value, mm_Runs L xs d 69 (50, [some (.ref 7), some (.int v1), some (.int v2), z3, some (.int v4), z5], [.int s0], M) o
noncomputable def mf_69_j50 (v1 : Int32) (v2 : Int32) (v4 : Int32) (s0 : Int32) (M : mm_M) : mm_O Int32 := if mm_in v1 12500 then if mm_in v2 12500 then if (M.1 9 v1.toNatClampNeg) = (M.1 9 v2.toNatClampNeg) then (if mm_in v4 12500 then if mm_in s0 12500 then if (M.1 9 v4.toNatClampNeg) = (M.1 9 s0.toNatClampNeg) then (some (.inl (0 : Int32), M)) else (some (.inl (1 : Int32), M)) else none else none) else (some (.inl (1 : Int32), M)) else none else none
set_option maxRecDepth 8000 in
set_option maxHeartbeats 4000000 in
theorem ms_69_j50 {L : Nat} {xs : Nat → Int32} {d : Nat} (hd : 0 ≤ d) {v1 : Int32} {v2 : Int32} {v4 : Int32} {s0 : Int32} {M : mm_M} {q : (Int32 ⊕ Nat) × mm_M} {o : mm_E} (h : mf_69_j50 v1 v2 v4 s0 M = some q) (hA : mm_A (mm_Kr mm_wi) q o) : mp_69_50 L xs d v1 v2 v4 s0 M o := by
  unfold mf_69_j50 at h
  intro z3 z5
  show mm_Runs L xs (d) 69 (50, [some (.ref 7), some (.int v1), some (.int v2), z3, some (.int v4), z5], [.int s0], M) o
  refine mm_Runs.seq (l := [(50, .istore 5, 2), (52, .aload_n 0, 1), (53, .getfield 15, 3), (56, .iload_n 1, 1)]) (S2 := (57, [some (.ref 7), some (.int v1), some (.int v2), z3, some (.int v4), some (.int s0)], [.int v1, .ref 9], M)) (by decide +kernel) (hO := mm_own_69) rfl ?_
  obtain ⟨hb, h⟩ := mm_gd h
  refine mm_R_iald rfl rfl hb ?_
  refine mm_Runs.seq (l := [(58, .aload_n 0, 1), (59, .getfield 15, 3), (62, .iload_n 2, 1)]) (S2 := (63, [some (.ref 7), some (.int v1), some (.int v2), z3, some (.int v4), some (.int s0)], [.int v2, .ref 9, .int (M.1 9 v1.toNatClampNeg)], M)) (by decide +kernel) (hO := mm_own_69) rfl ?_
  obtain ⟨hb, h⟩ := mm_gd h
  refine mm_R_iald rfl rfl hb ?_
  refine mm_R_ine (t := 84) rfl rfl rfl (fun hc => ?_) (fun hc => ?_)
  · replace h := mm_ip hc h
    refine mm_Runs.seq (l := [(67, .aload_n 0, 1), (68, .getfield 15, 3), (71, .iload 4, 2)]) (S2 := (73, [some (.ref 7), some (.int v1), some (.int v2), z3, some (.int v4), some (.int s0)], [.int v4, .ref 9], M)) (by decide +kernel) (hO := mm_own_69) rfl ?_
    obtain ⟨hb, h⟩ := mm_gd h
    refine mm_R_iald rfl rfl hb ?_
    refine mm_Runs.seq (l := [(74, .aload_n 0, 1), (75, .getfield 15, 3), (78, .iload 5, 2)]) (S2 := (80, [some (.ref 7), some (.int v1), some (.int v2), z3, some (.int v4), some (.int s0)], [.int s0, .ref 9, .int (M.1 9 v4.toNatClampNeg)], M)) (by decide +kernel) (hO := mm_own_69) rfl ?_
    obtain ⟨hb, h⟩ := mm_gd h
    refine mm_R_iald rfl rfl hb ?_
    refine mm_R_ieq (t := 88) rfl rfl rfl (fun hc => ?_) (fun hc => ?_)
    · replace h := mm_ip hc h
      refine mm_Runs.seq (l := [(88, .iconst 0, 1)]) (S2 := (89, [some (.ref 7), some (.int v1), some (.int v2), z3, some (.int v4), some (.int s0)], [.int (0 : Int32)], M)) (by decide +kernel) (hO := mm_own_69) rfl ?_
      cases h
      exact mm_R_retb rfl rfl rfl hA
    · replace h := mm_iq hc h
      refine mm_Runs.seq (l := [(84, .iconst 1, 1), (85, .goto 4, 3)]) (S2 := (89, [some (.ref 7), some (.int v1), some (.int v2), z3, some (.int v4), some (.int s0)], [.int (1 : Int32)], M)) (by decide +kernel) (hO := mm_own_69) rfl ?_
      cases h
      exact mm_R_retb rfl rfl rfl hA
  · replace h := mm_iq hc h
    refine mm_Runs.seq (l := [(84, .iconst 1, 1), (85, .goto 4, 3)]) (S2 := (89, [some (.ref 7), some (.int v1), some (.int v2), z3, some (.int v4), some (.int s0)], [.int (1 : Int32)], M)) (by decide +kernel) (hO := mm_own_69) rfl ?_
    cases h
    exact mm_R_retb rfl rfl rfl hA
noncomputable def mf_69_j24 (v1 : Int32) (v2 : Int32) (v3 : Int32) (s0 : Int32) (M : mm_M) : mm_O Int32 := if (v2 + v3) < (M.1 7 5) then (mf_69_j50 v1 v2 s0 (v2 + v3) M) else (mf_69_j50 v1 v2 s0 ((v2 + v3) - (M.1 7 5)) M)
set_option maxRecDepth 8000 in
set_option maxHeartbeats 4000000 in
theorem ms_69_j24 {L : Nat} {xs : Nat → Int32} {d : Nat} (hd : 0 ≤ d) {v1 : Int32} {v2 : Int32} {v3 : Int32} {s0 : Int32} {M : mm_M} {q : (Int32 ⊕ Nat) × mm_M} {o : mm_E} (h : mf_69_j24 v1 v2 v3 s0 M = some q) (hA : mm_A (mm_Kr mm_wi) q o) : mp_69_24 L xs d v1 v2 v3 s0 M o := by
  unfold mf_69_j24 at h
  intro z4 z5
  show mm_Runs L xs (d) 69 (24, [some (.ref 7), some (.int v1), some (.int v2), some (.int v3), z4, z5], [.int s0], M) o
  refine mm_Runs.seq (l := [(24, .istore 4, 2), (26, .iload_n 2, 1), (27, .iload_n 3, 1), (28, .iadd, 1), (29, .aload_n 0, 1), (30, .getfield 33, 3)]) (S2 := (33, [some (.ref 7), some (.int v1), some (.int v2), some (.int v3), some (.int s0), z5], [.int (M.1 7 5), .int (v2 + v3)], M)) (by decide +kernel) (hO := mm_own_69) rfl ?_
  refine mm_R_ige (t := 42) rfl rfl rfl (fun hc => ?_) (fun hc => ?_)
  · replace h := mm_ip hc h
    refine mm_Runs.seq (l := [(36, .iload_n 2, 1), (37, .iload_n 3, 1), (38, .iadd, 1), (39, .goto 11, 3)]) (S2 := (50, [some (.ref 7), some (.int v1), some (.int v2), some (.int v3), some (.int s0), z5], [.int (v2 + v3)], M)) (by decide +kernel) (hO := mm_own_69) rfl ?_
    exact (ms_69_j50 hd h hA : mp_69_50 L xs (d) v1 v2 s0 (v2 + v3) M o) (some (.int v3)) z5
  · replace h := mm_iq hc h
    refine mm_Runs.seq (l := [(42, .iload_n 2, 1), (43, .iload_n 3, 1), (44, .iadd, 1), (45, .aload_n 0, 1), (46, .getfield 33, 3), (49, .isub, 1)]) (S2 := (50, [some (.ref 7), some (.int v1), some (.int v2), some (.int v3), some (.int s0), z5], [.int ((v2 + v3) - (M.1 7 5))], M)) (by decide +kernel) (hO := mm_own_69) rfl ?_
    exact (ms_69_j50 hd h hA : mp_69_50 L xs (d) v1 v2 s0 ((v2 + v3) - (M.1 7 5)) M o) (some (.int v3)) z5
noncomputable def mf_69 (v1 : Int32) (v2 : Int32) (v3 : Int32) (M : mm_M) : mm_O Int32 := if (v1 + v3) < (M.1 7 5) then (mf_69_j24 v1 v2 v3 (v1 + v3) M) else (mf_69_j24 v1 v2 v3 ((v1 + v3) - (M.1 7 5)) M)
set_option maxRecDepth 8000 in
set_option maxHeartbeats 4000000 in
theorem ms_69 {L : Nat} {xs : Nat → Int32} {d : Nat} (hd : 0 ≤ d) {v1 : Int32} {v2 : Int32} {v3 : Int32} {M : mm_M} {q : (Int32 ⊕ Nat) × mm_M} {o : mm_E} (h : mf_69 v1 v2 v3 M = some q) (hA : mm_A (mm_Kr mm_wi) q o) : mm_Runs L xs d 69 (0, mm_ent (mm_ml 69) [.ref 7, .int v1, .int v2, .int v3], [], M) o := by
  unfold mf_69 at h
  show mm_Runs L xs (d) 69 (0, [some (.ref 7), some (.int v1), some (.int v2), some (.int v3), none, none], [], M) o
  refine mm_Runs.seq (l := [(0, .iload_n 1, 1), (1, .iload_n 3, 1), (2, .iadd, 1), (3, .aload_n 0, 1), (4, .getfield 33, 3)]) (S2 := (7, [some (.ref 7), some (.int v1), some (.int v2), some (.int v3), none, none], [.int (M.1 7 5), .int (v1 + v3)], M)) (by decide +kernel) (hO := mm_own_69) rfl ?_
  refine mm_R_ige (t := 16) rfl rfl rfl (fun hc => ?_) (fun hc => ?_)
  · replace h := mm_ip hc h
    refine mm_Runs.seq (l := [(10, .iload_n 1, 1), (11, .iload_n 3, 1), (12, .iadd, 1), (13, .goto 11, 3)]) (S2 := (24, [some (.ref 7), some (.int v1), some (.int v2), some (.int v3), none, none], [.int (v1 + v3)], M)) (by decide +kernel) (hO := mm_own_69) rfl ?_
    exact (ms_69_j24 hd h hA : mp_69_24 L xs (d) v1 v2 v3 (v1 + v3) M o) none none
  · replace h := mm_iq hc h
    refine mm_Runs.seq (l := [(16, .iload_n 1, 1), (17, .iload_n 3, 1), (18, .iadd, 1), (19, .aload_n 0, 1), (20, .getfield 33, 3), (23, .isub, 1)]) (S2 := (24, [some (.ref 7), some (.int v1), some (.int v2), some (.int v3), none, none], [.int ((v1 + v3) - (M.1 7 5))], M)) (by decide +kernel) (hO := mm_own_69) rfl ?_
    exact (ms_69_j24 hd h hA : mp_69_24 L xs (d) v1 v2 v3 ((v1 + v3) - (M.1 7 5)) M o) none none
-- 68: PlainPacks$Turnings.rankAgain(I)V (depth 2)
theorem mm_own_68 : mm_own 68 = 4 := rfl
def mp_68_7 (L : Nat) (xs : Nat → Int32) (d : Nat) (v1 : Int32) (v2 : Int32) (M : mm_M) (o : mm_E) : Prop := mm_Runs L xs d 68 (7, [some (.ref 7), some (.int v1), some (.int v2)], [], M) o
def mp_68_74 (L : Nat) (xs : Nat → Int32) (d : Nat) (M : mm_M) (o : mm_E) : Prop := ∀ z1 z2 : Option Value, mm_Runs L xs d 68 (74, [some (.ref 7), z1, z2], [], M) o
def mp_68_41 (L : Nat) (xs : Nat → Int32) (d : Nat) (v1 : Int32) (v2 : Int32) (M : mm_M) (o : mm_E) : Prop := mm_Runs L xs d 68 (41, [some (.ref 7), some (.int v1), some (.int v2)], [], M) o
def mp_68_51 (L : Nat) (xs : Nat → Int32) (d : Nat) (v1 : Int32) (v2 : Int32) (M : mm_M) (o : mm_E) : Prop := mm_Runs L xs d 68 (51, [some (.ref 7), some (.int v1), some (.int v2)], [], M) o
noncomputable def mf_68_j51 (v1 : Int32) (v2 : Int32) (M : mm_M) : mm_O ((Int32) ⊕ (Unit)) := if mm_in v2 12500 then if mm_in (M.1 8 v2.toNatClampNeg) 12500 then some (.inl (.inl (v2 + (1 : Int32))), (mm_pi M 11 (M.1 8 v2.toNatClampNeg).toNatClampNeg ((M.1 7 6) - (1 : Int32)))) else none else none
set_option maxRecDepth 8000 in
set_option maxHeartbeats 4000000 in
theorem ms_68_j51 {L : Nat} {xs : Nat → Int32} {d : Nat} (hd : 2 ≤ d) {v1 : Int32} {v2 : Int32} {M : mm_M} {q : (((Int32) ⊕ (Unit)) ⊕ Nat) × mm_M} {o : mm_E} (h : mf_68_j51 v1 v2 M = some q) (hA : mm_A (mm_K2 (fun s M o => mp_68_7 L xs (d) v1 s M o) (fun r M o => mp_68_74 L xs (d) M o)) q o) : mp_68_51 L xs d v1 v2 M o := by
  unfold mf_68_j51 at h
  obtain ⟨d, rfl⟩ := mm_d1 (n := 1) hd
  show mm_Runs L xs (d + 1) 68 (51, [some (.ref 7), some (.int v1), some (.int v2)], [], M) o
  refine mm_Runs.seq (l := [(51, .aload_n 0, 1), (52, .getfield 21, 3), (55, .aload_n 0, 1), (56, .getfield 9, 3), (59, .iload_n 2, 1)]) (S2 := (60, [some (.ref 7), some (.int v1), some (.int v2)], [.int v2, .ref 8, .ref 11], M)) (by decide +kernel) (hO := mm_own_68) rfl ?_
  obtain ⟨hb, h⟩ := mm_gd h
  refine mm_R_iald rfl rfl hb ?_
  refine mm_Runs.seq (l := [(61, .aload_n 0, 1), (62, .getfield 44, 3), (65, .iconst 1, 1), (66, .isub, 1)]) (S2 := (67, [some (.ref 7), some (.int v1), some (.int v2)], [.int ((M.1 7 6) - (1 : Int32)), .int (M.1 8 v2.toNatClampNeg), .ref 11], M)) (by decide +kernel) (hO := mm_own_68) rfl ?_
  obtain ⟨hb, h⟩ := mm_gd h
  refine mm_R_iast rfl rfl hb ?_
  refine mm_Runs.seq (l := [(68, .iinc 2 1, 3), (71, .goto (-64), 3)]) (S2 := (7, [some (.ref 7), some (.int v1), some (.int (v2 + (1 : Int32)))], [], (mm_pi M 11 (M.1 8 v2.toNatClampNeg).toNatClampNeg ((M.1 7 6) - (1 : Int32))))) (by decide +kernel) (hO := mm_own_68) rfl ?_
  cases h
  exact (show mp_68_7 L xs (d + 1) v1 (v2 + (1 : Int32)) (mm_pi M 11 (M.1 8 v2.toNatClampNeg).toNatClampNeg ((M.1 7 6) - (1 : Int32))) o from hA)
noncomputable def mf_68_j41 (v1 : Int32) (v2 : Int32) (M : mm_M) : mm_O ((Int32) ⊕ (Unit)) := mf_68_j51 v1 v2 (mm_pi M 7 6 ((M.1 7 6) + (1 : Int32)))
set_option maxRecDepth 8000 in
set_option maxHeartbeats 4000000 in
theorem ms_68_j41 {L : Nat} {xs : Nat → Int32} {d : Nat} (hd : 2 ≤ d) {v1 : Int32} {v2 : Int32} {M : mm_M} {q : (((Int32) ⊕ (Unit)) ⊕ Nat) × mm_M} {o : mm_E} (h : mf_68_j41 v1 v2 M = some q) (hA : mm_A (mm_K2 (fun s M o => mp_68_7 L xs (d) v1 s M o) (fun r M o => mp_68_74 L xs (d) M o)) q o) : mp_68_41 L xs d v1 v2 M o := by
  unfold mf_68_j41 at h
  obtain ⟨d, rfl⟩ := mm_d1 (n := 1) hd
  show mm_Runs L xs (d + 1) 68 (41, [some (.ref 7), some (.int v1), some (.int v2)], [], M) o
  refine mm_Runs.seq (l := [(41, .aload_n 0, 1), (42, .dup, 1), (43, .getfield 44, 3), (46, .iconst 1, 1), (47, .iadd, 1), (48, .putfield 44, 3)]) (S2 := (51, [some (.ref 7), some (.int v1), some (.int v2)], [], (mm_pi M 7 6 ((M.1 7 6) + (1 : Int32))))) (by decide +kernel) (hO := mm_own_68) rfl ?_
  exact (ms_68_j51 hd h hA : mp_68_51 L xs (d + 1) v1 v2 (mm_pi M 7 6 ((M.1 7 6) + (1 : Int32))) o)
noncomputable def mf_68_b7 (v1 : Int32) (v2 : Int32) (M : mm_M) : mm_O ((Int32) ⊕ (Unit)) := if v2 < (M.1 7 5) then (if v2 = 0 then (mf_68_j41 v1 v2 M) else (if mm_in (v2 - (1 : Int32)) 12500 then if mm_in v2 12500 then mm_B (mf_69 (M.1 8 (v2 - (1 : Int32)).toNatClampNeg) (M.1 8 v2.toNatClampNeg) v1 M) (fun r1 M2 => if r1 = 0 then (mf_68_j51 v1 v2 M2) else (mf_68_j41 v1 v2 M2)) else none else none)) else (some (.inl (.inr ()), M))
noncomputable def mf_68_L7 (v1 : Int32) (s : Int32) (M : mm_M) : mm_O (Unit) := mm_L (fun s M => mf_68_b7 v1 s M) s M
set_option maxRecDepth 8000 in
set_option maxHeartbeats 4000000 in
theorem ms_68_b7 {L : Nat} {xs : Nat → Int32} {d : Nat} (hd : 2 ≤ d) {v1 : Int32} {v2 : Int32} {M : mm_M} {q : (((Int32) ⊕ (Unit)) ⊕ Nat) × mm_M} {o : mm_E} (h : mf_68_b7 v1 v2 M = some q) (hA : mm_A (mm_K2 (fun s M o => mp_68_7 L xs (d) v1 s M o) (fun r M o => mp_68_74 L xs (d) M o)) q o) : mp_68_7 L xs d v1 v2 M o := by
  unfold mf_68_b7 at h
  obtain ⟨d, rfl⟩ := mm_d1 (n := 1) hd
  show mm_Runs L xs (d + 1) 68 (7, [some (.ref 7), some (.int v1), some (.int v2)], [], M) o
  refine mm_Runs.seq (l := [(7, .iload_n 2, 1), (8, .aload_n 0, 1), (9, .getfield 33, 3)]) (S2 := (12, [some (.ref 7), some (.int v1), some (.int v2)], [.int (M.1 7 5), .int v2], M)) (by decide +kernel) (hO := mm_own_68) rfl ?_
  refine mm_R_ige (t := 74) rfl rfl rfl (fun hc => ?_) (fun hc => ?_)
  · replace h := mm_ip hc h
    refine mm_Runs.seq (l := [(15, .iload_n 2, 1)]) (S2 := (16, [some (.ref 7), some (.int v1), some (.int v2)], [.int v2], M)) (by decide +kernel) (hO := mm_own_68) rfl ?_
    refine mm_R_zeq (t := 41) rfl rfl rfl (fun hc => ?_) (fun hc => ?_)
    · replace h := mm_ip hc h
      exact (ms_68_j41 hd h hA : mp_68_41 L xs (d + 1) v1 v2 M o)
    · replace h := mm_iq hc h
      refine mm_Runs.seq (l := [(19, .aload_n 0, 1), (20, .aload_n 0, 1), (21, .getfield 9, 3), (24, .iload_n 2, 1), (25, .iconst 1, 1), (26, .isub, 1)]) (S2 := (27, [some (.ref 7), some (.int v1), some (.int v2)], [.int (v2 - (1 : Int32)), .ref 8, .ref 7], M)) (by decide +kernel) (hO := mm_own_68) rfl ?_
      obtain ⟨hb, h⟩ := mm_gd h
      refine mm_R_iald rfl rfl hb ?_
      refine mm_Runs.seq (l := [(28, .aload_n 0, 1), (29, .getfield 9, 3), (32, .iload_n 2, 1)]) (S2 := (33, [some (.ref 7), some (.int v1), some (.int v2)], [.int v2, .ref 8, .int (M.1 8 (v2 - (1 : Int32)).toNatClampNeg), .ref 7], M)) (by decide +kernel) (hO := mm_own_68) rfl ?_
      obtain ⟨hb, h⟩ := mm_gd h
      refine mm_R_iald rfl rfl hb ?_
      refine mm_Runs.seq (l := [(34, .iload_n 1, 1)]) (S2 := (35, [some (.ref 7), some (.int v1), some (.int v2)], [.int v1, .int (M.1 8 v2.toNatClampNeg), .int (M.1 8 (v2 - (1 : Int32)).toNatClampNeg), .ref 7], M)) (by decide +kernel) (hO := mm_own_68) rfl ?_
      refine mm_R_call (v := mm_wi) h hA (k2 := 69) (as := [.ref 7, .int (M.1 8 (v2 - (1 : Int32)).toNatClampNeg), .int (M.1 8 v2.toNatClampNeg), .int v1]) (r := []) rfl (fun _ => rfl) (fun q hq o ho => ms_69 (by omega) hq ho) (fun r1 M2 h => ?_)
      show mm_Runs L xs (d + 1) 68 (38, [some (.ref 7), some (.int v1), some (.int v2)], [.int r1], M2) o
      refine mm_R_zeq (t := 51) rfl rfl rfl (fun hc => ?_) (fun hc => ?_)
      · replace h := mm_ip hc h
        exact (ms_68_j51 hd h hA : mp_68_51 L xs (d + 1) v1 v2 M2 o)
      · replace h := mm_iq hc h
        exact (ms_68_j41 hd h hA : mp_68_41 L xs (d + 1) v1 v2 M2 o)
  · replace h := mm_iq hc h
    cases h
    exact (show mp_68_74 L xs (d + 1) M o from hA) (some (.int v1)) (some (.int v2))
theorem ms_68_L7 {L : Nat} {xs : Nat → Int32} {d : Nat} (hd : 2 ≤ d) {v1 : Int32} {v2 : Int32} {β : Type} {K : β → mm_M → mm_E → Prop} {F : (Unit) → mm_M → mm_O β} {M : mm_M} {q : (β ⊕ Nat) × mm_M} {o : mm_E} (h : mm_B (mf_68_L7 v1 v2 M) F = some q) (hA : mm_A K q o) (hx : ∀ (r : (Unit)) (M2 : mm_M), F r M2 = some q → (fun r M o => mp_68_74 L xs (d) M o) r M2 o) : mp_68_7 L xs d v1 v2 M o := mm_R_loop (s := v2) (M := M) (P := (fun s M o => mp_68_7 L xs (d) v1 s M o)) (X := (fun r M o => mp_68_74 L xs (d) M o)) h hA (fun s M q hq hA => ms_68_b7 hd hq hA) hx
noncomputable def mf_68_j74 (M : mm_M) : mm_O Unit := if mm_cpok (0 : Int32) (0 : Int32) (M.1 7 5) 12500 12500 then some (.inl (), (mm_cpM M 11 (0 : Int32) 9 (0 : Int32) (M.1 7 5))) else none
set_option maxRecDepth 8000 in
set_option maxHeartbeats 4000000 in
theorem ms_68_j74 {L : Nat} {xs : Nat → Int32} {d : Nat} (hd : 2 ≤ d) {M : mm_M} {q : (Unit ⊕ Nat) × mm_M} {o : mm_E} (h : mf_68_j74 M = some q) (hA : mm_A (mm_Kr mm_wv) q o) : mp_68_74 L xs d M o := by
  unfold mf_68_j74 at h
  obtain ⟨d, rfl⟩ := mm_d1 (n := 1) hd
  intro z1 z2
  show mm_Runs L xs (d + 1) 68 (74, [some (.ref 7), z1, z2], [], M) o
  refine mm_Runs.seq (l := [(74, .aload_n 0, 1), (75, .getfield 21, 3), (78, .iconst 0, 1), (79, .aload_n 0, 1), (80, .getfield 15, 3), (83, .iconst 0, 1), (84, .aload_n 0, 1), (85, .getfield 33, 3)]) (S2 := (88, [some (.ref 7), z1, z2], [.int (M.1 7 5), .int (0 : Int32), .ref 9, .int (0 : Int32), .ref 11], M)) (by decide +kernel) (hO := mm_own_68) rfl ?_
  obtain ⟨hb, h⟩ := mm_gd h
  refine mm_R_cpy rfl rfl rfl rfl rfl hb (by omega) ?_
  cases h
  exact mm_R_retv rfl rfl hA
noncomputable def mf_68 (v1 : Int32) (M : mm_M) : mm_O Unit := mm_B (mf_68_L7 v1 (0 : Int32) (mm_pi M 7 6 (0 : Int32))) (fun r2 M1 => mf_68_j74 M1)
set_option maxRecDepth 8000 in
set_option maxHeartbeats 4000000 in
theorem ms_68 {L : Nat} {xs : Nat → Int32} {d : Nat} (hd : 2 ≤ d) {v1 : Int32} {M : mm_M} {q : (Unit ⊕ Nat) × mm_M} {o : mm_E} (h : mf_68 v1 M = some q) (hA : mm_A (mm_Kr mm_wv) q o) : mm_Runs L xs d 68 (0, mm_ent (mm_ml 68) [.ref 7, .int v1], [], M) o := by
  unfold mf_68 at h
  obtain ⟨d, rfl⟩ := mm_d1 (n := 1) hd
  show mm_Runs L xs (d + 1) 68 (0, [some (.ref 7), some (.int v1), none], [], M) o
  refine mm_Runs.seq (l := [(0, .aload_n 0, 1), (1, .iconst 0, 1), (2, .putfield 44, 3), (5, .iconst 0, 1), (6, .istore_n 2, 1)]) (S2 := (7, [some (.ref 7), some (.int v1), some (.int (0 : Int32))], [], (mm_pi M 7 6 (0 : Int32)))) (by decide +kernel) (hO := mm_own_68) rfl ?_
  have hp : mp_68_7 L xs (d + 1) v1 (0 : Int32) (mm_pi M 7 6 (0 : Int32)) o := by
    refine ms_68_L7 hd h hA (fun r2 M1 h => ?_)
    intro y3 y4
    show mm_Runs L xs (d + 1) 68 (74, [some (.ref 7), y3, y4], [], M1) o
    exact (ms_68_j74 hd h hA : mp_68_74 L xs (d + 1) M1 o) y3 y4
  exact hp
-- 66: PlainPacks$Turnings.sort([II)V (depth 3)
theorem mm_own_66 : mm_own 66 = 4 := rfl
def mp_66_18 (L : Nat) (xs : Nat → Int32) (p : Nat) (n : Nat) (d : Nat) (v3 : Int32) (M : mm_M) (o : mm_E) : Prop := ∀ z2 z4 z5 : Option Value, mm_Runs L xs d 66 (18, [some (.ref 7), some (.ref p), z2, some (.int v3), z4, z5], [], M) o
def mp_66_48 (L : Nat) (xs : Nat → Int32) (p : Nat) (n : Nat) (d : Nat) (M : mm_M) (o : mm_E) : Prop := ∀ z1 z2 z3 z4 z5 : Option Value, mm_Runs L xs d 66 (48, [some (.ref 7), z1, z2, z3, z4, z5], [], M) o
noncomputable def mf_66_b18 (p : Nat) (n : Nat) (v3 : Int32) (M : mm_M) : mm_O ((Int32) ⊕ (Unit)) := if v3 < (M.1 7 5) then (if mm_in v3 n then if mm_in v3 12500 then if mm_in v3 12500 then some (.inl (.inl (v3 + (1 : Int32))), (mm_pi (mm_pi M 9 v3.toNatClampNeg (M.1 p v3.toNatClampNeg)) 10 v3.toNatClampNeg v3)) else none else none else none) else (some (.inl (.inr ()), M))
noncomputable def mf_66_L18 (p : Nat) (n : Nat) (s : Int32) (M : mm_M) : mm_O (Unit) := mm_L (fun s M => mf_66_b18 p n s M) s M
set_option maxRecDepth 8000 in
set_option maxHeartbeats 4000000 in
theorem ms_66_b18 {L : Nat} {xs : Nat → Int32} {p : Nat} {n : Nat} {d : Nat} (ha : mm_aat 0 p = some n) (hd : 3 ≤ d) {v3 : Int32} {M : mm_M} {q : (((Int32) ⊕ (Unit)) ⊕ Nat) × mm_M} {o : mm_E} (h : mf_66_b18 p n v3 M = some q) (hA : mm_A (mm_K2 (fun s M o => mp_66_18 L xs p n (d) s M o) (fun r M o => mp_66_48 L xs p n (d) M o)) q o) : mp_66_18 L xs p n d v3 M o := by
  unfold mf_66_b18 at h
  obtain ⟨d, rfl⟩ := mm_d1 (n := 2) hd
  intro z2 z4 z5
  show mm_Runs L xs (d + 1) 66 (18, [some (.ref 7), some (.ref p), z2, some (.int v3), z4, z5], [], M) o
  refine mm_Runs.seq (l := [(18, .iload_n 3, 1), (19, .aload_n 0, 1), (20, .getfield 33, 3)]) (S2 := (23, [some (.ref 7), some (.ref p), z2, some (.int v3), z4, z5], [.int (M.1 7 5), .int v3], M)) (by decide +kernel) (hO := mm_own_66) rfl ?_
  refine mm_R_ige (t := 48) rfl rfl rfl (fun hc => ?_) (fun hc => ?_)
  · replace h := mm_ip hc h
    refine mm_Runs.seq (l := [(26, .aload_n 0, 1), (27, .getfield 15, 3), (30, .iload_n 3, 1), (31, .aload_n 1, 1), (32, .iload_n 3, 1)]) (S2 := (33, [some (.ref 7), some (.ref p), z2, some (.int v3), z4, z5], [.int v3, .ref p, .int v3, .ref 9], M)) (by decide +kernel) (hO := mm_own_66) rfl ?_
    obtain ⟨hb, h⟩ := mm_gd h
    refine mm_R_iald rfl ha hb ?_
    obtain ⟨hb, h⟩ := mm_gd h
    refine mm_R_iast rfl rfl hb ?_
    refine mm_Runs.seq (l := [(35, .aload_n 0, 1), (36, .getfield 18, 3), (39, .iload_n 3, 1), (40, .iload_n 3, 1)]) (S2 := (41, [some (.ref 7), some (.ref p), z2, some (.int v3), z4, z5], [.int v3, .int v3, .ref 10], (mm_pi M 9 v3.toNatClampNeg (M.1 p v3.toNatClampNeg)))) (by decide +kernel) (hO := mm_own_66) rfl ?_
    obtain ⟨hb, h⟩ := mm_gd h
    refine mm_R_iast rfl rfl hb ?_
    refine mm_Runs.seq (l := [(42, .iinc 3 1, 3), (45, .goto (-27), 3)]) (S2 := (18, [some (.ref 7), some (.ref p), (mm_no2 z2), some (.int (v3 + (1 : Int32))), z4, z5], [], (mm_pi (mm_pi M 9 v3.toNatClampNeg (M.1 p v3.toNatClampNeg)) 10 v3.toNatClampNeg v3))) (by decide +kernel) (hO := mm_own_66) rfl ?_
    cases h
    exact (show mp_66_18 L xs p n (d + 1) (v3 + (1 : Int32)) (mm_pi (mm_pi M 9 v3.toNatClampNeg (M.1 p v3.toNatClampNeg)) 10 v3.toNatClampNeg v3) o from hA) ((mm_no2 z2)) z4 z5
  · replace h := mm_iq hc h
    cases h
    exact (show mp_66_48 L xs p n (d + 1) M o from hA) (some (.ref p)) z2 (some (.int v3)) z4 z5
theorem ms_66_L18 {L : Nat} {xs : Nat → Int32} {p : Nat} {n : Nat} {d : Nat} (ha : mm_aat 0 p = some n) (hd : 3 ≤ d) {v3 : Int32} {β : Type} {K : β → mm_M → mm_E → Prop} {F : (Unit) → mm_M → mm_O β} {M : mm_M} {q : (β ⊕ Nat) × mm_M} {o : mm_E} (h : mm_B (mf_66_L18 p n v3 M) F = some q) (hA : mm_A K q o) (hx : ∀ (r : (Unit)) (M2 : mm_M), F r M2 = some q → (fun r M o => mp_66_48 L xs p n (d) M o) r M2 o) : mp_66_18 L xs p n d v3 M o := mm_R_loop (s := v3) (M := M) (P := (fun s M o => mp_66_18 L xs p n (d) s M o)) (X := (fun r M o => mp_66_48 L xs p n (d) M o)) h hA (fun s M q hq hA => ms_66_b18 ha hd hq hA) hx
def mp_66_62 (L : Nat) (xs : Nat → Int32) (p : Nat) (n : Nat) (d : Nat) (v3 : Int32) (M : mm_M) (o : mm_E) : Prop := ∀ z1 z2 z4 z5 : Option Value, mm_Runs L xs d 66 (62, [some (.ref 7), z1, z2, some (.int v3), z4, z5], [], M) o
def mp_66_154 (L : Nat) (xs : Nat → Int32) (p : Nat) (n : Nat) (d : Nat) (M : mm_M) (o : mm_E) : Prop := ∀ z1 z2 z3 z4 z5 : Option Value, mm_Runs L xs d 66 (154, [some (.ref 7), z1, z2, z3, z4, z5], [], M) o
def mp_66_84 (L : Nat) (xs : Nat → Int32) (p : Nat) (n : Nat) (d : Nat) (v3 : Int32) (v4 : Int32) (M : mm_M) (o : mm_E) : Prop := ∀ z1 z2 z5 : Option Value, mm_Runs L xs d 66 (84, [some (.ref 7), z1, z2, some (.int v3), some (.int v4), z5], [], M) o
def mp_66_134 (L : Nat) (xs : Nat → Int32) (p : Nat) (n : Nat) (d : Nat) (v3 : Int32) (M : mm_M) (o : mm_E) : Prop := ∀ z1 z2 z4 z5 : Option Value, mm_Runs L xs d 66 (134, [some (.ref 7), z1, z2, some (.int v3), z4, z5], [], M) o
def mp_66_127 (L : Nat) (xs : Nat → Int32) (p : Nat) (n : Nat) (d : Nat) (v3 : Int32) (v4 : Int32) (s1 : Int32) (s2 : Int32) (M : mm_M) (o : mm_E) : Prop := ∀ z1 z2 z5 : Option Value, mm_Runs L xs d 66 (127, [some (.ref 7), z1, z2, some (.int v3), some (.int v4), z5], [.int s2, .int s1, .ref 10], M) o
noncomputable def mf_66_j127 (p : Nat) (n : Nat) (v3 : Int32) (v4 : Int32) (s1 : Int32) (s2 : Int32) (M : mm_M) : mm_O ((Int32) ⊕ (Unit)) := if mm_in s1 12500 then some (.inl (.inl (v4 + (1 : Int32))), (mm_pi M 10 s1.toNatClampNeg s2)) else none
set_option maxRecDepth 8000 in
set_option maxHeartbeats 4000000 in
theorem ms_66_j127 {L : Nat} {xs : Nat → Int32} {p : Nat} {n : Nat} {d : Nat} (ha : mm_aat 0 p = some n) (hd : 3 ≤ d) {v3 : Int32} {v4 : Int32} {s1 : Int32} {s2 : Int32} {M : mm_M} {q : (((Int32) ⊕ (Unit)) ⊕ Nat) × mm_M} {o : mm_E} (h : mf_66_j127 p n v3 v4 s1 s2 M = some q) (hA : mm_A (mm_K2 (fun s M o => mp_66_84 L xs p n (d) v3 s M o) (fun r M o => mp_66_134 L xs p n (d) v3 M o)) q o) : mp_66_127 L xs p n d v3 v4 s1 s2 M o := by
  unfold mf_66_j127 at h
  obtain ⟨d, rfl⟩ := mm_d1 (n := 2) hd
  intro z1 z2 z5
  show mm_Runs L xs (d + 1) 66 (127, [some (.ref 7), z1, z2, some (.int v3), some (.int v4), z5], [.int s2, .int s1, .ref 10], M) o
  obtain ⟨hb, h⟩ := mm_gd h
  refine mm_R_iast rfl rfl hb ?_
  refine mm_Runs.seq (l := [(128, .iinc 4 1, 3), (131, .goto (-47), 3)]) (S2 := (84, [some (.ref 7), z1, z2, some (.int v3), some (.int (v4 + (1 : Int32))), z5], [], (mm_pi M 10 s1.toNatClampNeg s2))) (by decide +kernel) (hO := mm_own_66) rfl ?_
  cases h
  exact (show mp_66_84 L xs p n (d + 1) v3 (v4 + (1 : Int32)) (mm_pi M 10 s1.toNatClampNeg s2) o from hA) z1 z2 z5
noncomputable def mf_66_b84 (p : Nat) (n : Nat) (v3 : Int32) (v4 : Int32) (M : mm_M) : mm_O ((Int32) ⊕ (Unit)) := if v4 < (M.1 7 5) then (if mm_in v4 12500 then if ((M.1 8 v4.toNatClampNeg) - v3) < 0 then (mf_66_j127 p n v3 v4 v4 (((M.1 8 v4.toNatClampNeg) - v3) + (M.1 7 5)) M) else (mf_66_j127 p n v3 v4 v4 ((M.1 8 v4.toNatClampNeg) - v3) M) else none) else (some (.inl (.inr ()), M))
noncomputable def mf_66_L84 (p : Nat) (n : Nat) (v3 : Int32) (s : Int32) (M : mm_M) : mm_O (Unit) := mm_L (fun s M => mf_66_b84 p n v3 s M) s M
set_option maxRecDepth 8000 in
set_option maxHeartbeats 4000000 in
theorem ms_66_b84 {L : Nat} {xs : Nat → Int32} {p : Nat} {n : Nat} {d : Nat} (ha : mm_aat 0 p = some n) (hd : 3 ≤ d) {v3 : Int32} {v4 : Int32} {M : mm_M} {q : (((Int32) ⊕ (Unit)) ⊕ Nat) × mm_M} {o : mm_E} (h : mf_66_b84 p n v3 v4 M = some q) (hA : mm_A (mm_K2 (fun s M o => mp_66_84 L xs p n (d) v3 s M o) (fun r M o => mp_66_134 L xs p n (d) v3 M o)) q o) : mp_66_84 L xs p n d v3 v4 M o := by
  unfold mf_66_b84 at h
  obtain ⟨d, rfl⟩ := mm_d1 (n := 2) hd
  intro z1 z2 z5
  show mm_Runs L xs (d + 1) 66 (84, [some (.ref 7), z1, z2, some (.int v3), some (.int v4), z5], [], M) o
  refine mm_Runs.seq (l := [(84, .iload 4, 2), (86, .aload_n 0, 1), (87, .getfield 33, 3)]) (S2 := (90, [some (.ref 7), z1, z2, some (.int v3), some (.int v4), z5], [.int (M.1 7 5), .int v4], M)) (by decide +kernel) (hO := mm_own_66) rfl ?_
  refine mm_R_ige (t := 134) rfl rfl rfl (fun hc => ?_) (fun hc => ?_)
  · replace h := mm_ip hc h
    refine mm_Runs.seq (l := [(93, .aload_n 0, 1), (94, .getfield 9, 3), (97, .iload 4, 2)]) (S2 := (99, [some (.ref 7), z1, z2, some (.int v3), some (.int v4), z5], [.int v4, .ref 8], M)) (by decide +kernel) (hO := mm_own_66) rfl ?_
    obtain ⟨hb, h⟩ := mm_gd h
    refine mm_R_iald rfl rfl hb ?_
    refine mm_Runs.seq (l := [(100, .iload_n 3, 1), (101, .isub, 1), (102, .istore 5, 2), (104, .aload_n 0, 1), (105, .getfield 18, 3), (108, .iload 4, 2), (110, .iload 5, 2)]) (S2 := (112, [some (.ref 7), z1, z2, some (.int v3), some (.int v4), some (.int ((M.1 8 v4.toNatClampNeg) - v3))], [.int ((M.1 8 v4.toNatClampNeg) - v3), .int v4, .ref 10], M)) (by decide +kernel) (hO := mm_own_66) rfl ?_
    refine mm_R_zge (t := 125) rfl rfl rfl (fun hc => ?_) (fun hc => ?_)
    · replace h := mm_ip hc h
      refine mm_Runs.seq (l := [(115, .iload 5, 2), (117, .aload_n 0, 1), (118, .getfield 33, 3), (121, .iadd, 1), (122, .goto 5, 3)]) (S2 := (127, [some (.ref 7), z1, z2, some (.int v3), some (.int v4), some (.int ((M.1 8 v4.toNatClampNeg) - v3))], [.int (((M.1 8 v4.toNatClampNeg) - v3) + (M.1 7 5)), .int v4, .ref 10], M)) (by decide +kernel) (hO := mm_own_66) rfl ?_
      exact (ms_66_j127 ha hd h hA : mp_66_127 L xs p n (d + 1) v3 v4 v4 (((M.1 8 v4.toNatClampNeg) - v3) + (M.1 7 5)) M o) z1 z2 (some (.int ((M.1 8 v4.toNatClampNeg) - v3)))
    · replace h := mm_iq hc h
      refine mm_Runs.seq (l := [(125, .iload 5, 2)]) (S2 := (127, [some (.ref 7), z1, z2, some (.int v3), some (.int v4), some (.int ((M.1 8 v4.toNatClampNeg) - v3))], [.int ((M.1 8 v4.toNatClampNeg) - v3), .int v4, .ref 10], M)) (by decide +kernel) (hO := mm_own_66) rfl ?_
      exact (ms_66_j127 ha hd h hA : mp_66_127 L xs p n (d + 1) v3 v4 v4 ((M.1 8 v4.toNatClampNeg) - v3) M o) z1 z2 (some (.int ((M.1 8 v4.toNatClampNeg) - v3)))
  · replace h := mm_iq hc h
    cases h
    exact (show mp_66_134 L xs p n (d + 1) v3 M o from hA) z1 z2 (some (.int v4)) z5
theorem ms_66_L84 {L : Nat} {xs : Nat → Int32} {p : Nat} {n : Nat} {d : Nat} (ha : mm_aat 0 p = some n) (hd : 3 ≤ d) {v3 : Int32} {v4 : Int32} {β : Type} {K : β → mm_M → mm_E → Prop} {F : (Unit) → mm_M → mm_O β} {M : mm_M} {q : (β ⊕ Nat) × mm_M} {o : mm_E} (h : mm_B (mf_66_L84 p n v3 v4 M) F = some q) (hA : mm_A K q o) (hx : ∀ (r : (Unit)) (M2 : mm_M), F r M2 = some q → (fun r M o => mp_66_134 L xs p n (d) v3 M o) r M2 o) : mp_66_84 L xs p n d v3 v4 M o := mm_R_loop (s := v4) (M := M) (P := (fun s M o => mp_66_84 L xs p n (d) v3 s M o)) (X := (fun r M o => mp_66_134 L xs p n (d) v3 M o)) h hA (fun s M q hq hA => ms_66_b84 ha hd hq hA) hx
noncomputable def mf_66_j134 (p : Nat) (n : Nat) (v3 : Int32) (M : mm_M) : mm_O ((Int32) ⊕ (Unit)) := mm_B (mf_67 (M.1 7 6) M) (fun _ M1 => mm_B (mf_68 v3 M1) (fun _ M2 => some (.inl (.inl (v3 * (2 : Int32))), M2)))
set_option maxRecDepth 8000 in
set_option maxHeartbeats 4000000 in
theorem ms_66_j134 {L : Nat} {xs : Nat → Int32} {p : Nat} {n : Nat} {d : Nat} (ha : mm_aat 0 p = some n) (hd : 3 ≤ d) {v3 : Int32} {M : mm_M} {q : (((Int32) ⊕ (Unit)) ⊕ Nat) × mm_M} {o : mm_E} (h : mf_66_j134 p n v3 M = some q) (hA : mm_A (mm_K2 (fun s M o => mp_66_62 L xs p n (d) s M o) (fun r M o => mp_66_154 L xs p n (d) M o)) q o) : mp_66_134 L xs p n d v3 M o := by
  unfold mf_66_j134 at h
  obtain ⟨d, rfl⟩ := mm_d1 (n := 2) hd
  intro z1 z2 z4 z5
  show mm_Runs L xs (d + 1) 66 (134, [some (.ref 7), z1, z2, some (.int v3), z4, z5], [], M) o
  refine mm_Runs.seq (l := [(134, .aload_n 0, 1), (135, .aload_n 0, 1), (136, .getfield 44, 3)]) (S2 := (139, [some (.ref 7), z1, z2, some (.int v3), z4, z5], [.int (M.1 7 6), .ref 7], M)) (by decide +kernel) (hO := mm_own_66) rfl ?_
  refine mm_R_call (v := mm_wv) h hA (k2 := 67) (as := [.ref 7, .int (M.1 7 6)]) (r := []) rfl (fun _ => rfl) (fun q hq o ho => ms_67 (by omega) hq ho) (fun _ M1 h => ?_)
  show mm_Runs L xs (d + 1) 66 (142, [some (.ref 7), z1, z2, some (.int v3), z4, z5], [], M1) o
  refine mm_Runs.seq (l := [(142, .aload_n 0, 1), (143, .iload_n 3, 1)]) (S2 := (144, [some (.ref 7), z1, z2, some (.int v3), z4, z5], [.int v3, .ref 7], M1)) (by decide +kernel) (hO := mm_own_66) rfl ?_
  refine mm_R_call (v := mm_wv) h hA (k2 := 68) (as := [.ref 7, .int v3]) (r := []) rfl (fun _ => rfl) (fun q hq o ho => ms_68 (by omega) hq ho) (fun _ M2 h => ?_)
  show mm_Runs L xs (d + 1) 66 (147, [some (.ref 7), z1, z2, some (.int v3), z4, z5], [], M2) o
  refine mm_Runs.seq (l := [(147, .iload_n 3, 1), (148, .iconst 2, 1), (149, .imul, 1), (150, .istore_n 3, 1), (151, .goto (-89), 3)]) (S2 := (62, [some (.ref 7), z1, (mm_no2 z2), some (.int (v3 * (2 : Int32))), z4, z5], [], M2)) (by decide +kernel) (hO := mm_own_66) rfl ?_
  cases h
  exact (show mp_66_62 L xs p n (d + 1) (v3 * (2 : Int32)) M2 o from hA) z1 ((mm_no2 z2)) z4 z5
noncomputable def mf_66_b62 (p : Nat) (n : Nat) (v3 : Int32) (M : mm_M) : mm_O ((Int32) ⊕ (Unit)) := if v3 < (M.1 7 5) then (if (M.1 7 6) < (M.1 7 5) then (mm_B (mf_66_L84 p n v3 (0 : Int32) M) (fun r2 M1 => mf_66_j134 p n v3 M1)) else (some (.inl (.inr ()), M))) else (some (.inl (.inr ()), M))
noncomputable def mf_66_L62 (p : Nat) (n : Nat) (s : Int32) (M : mm_M) : mm_O (Unit) := mm_L (fun s M => mf_66_b62 p n s M) s M
set_option maxRecDepth 8000 in
set_option maxHeartbeats 4000000 in
theorem ms_66_b62 {L : Nat} {xs : Nat → Int32} {p : Nat} {n : Nat} {d : Nat} (ha : mm_aat 0 p = some n) (hd : 3 ≤ d) {v3 : Int32} {M : mm_M} {q : (((Int32) ⊕ (Unit)) ⊕ Nat) × mm_M} {o : mm_E} (h : mf_66_b62 p n v3 M = some q) (hA : mm_A (mm_K2 (fun s M o => mp_66_62 L xs p n (d) s M o) (fun r M o => mp_66_154 L xs p n (d) M o)) q o) : mp_66_62 L xs p n d v3 M o := by
  unfold mf_66_b62 at h
  obtain ⟨d, rfl⟩ := mm_d1 (n := 2) hd
  intro z1 z2 z4 z5
  show mm_Runs L xs (d + 1) 66 (62, [some (.ref 7), z1, z2, some (.int v3), z4, z5], [], M) o
  refine mm_Runs.seq (l := [(62, .iload_n 3, 1), (63, .aload_n 0, 1), (64, .getfield 33, 3)]) (S2 := (67, [some (.ref 7), z1, z2, some (.int v3), z4, z5], [.int (M.1 7 5), .int v3], M)) (by decide +kernel) (hO := mm_own_66) rfl ?_
  refine mm_R_ige (t := 154) rfl rfl rfl (fun hc => ?_) (fun hc => ?_)
  · replace h := mm_ip hc h
    refine mm_Runs.seq (l := [(70, .aload_n 0, 1), (71, .getfield 44, 3), (74, .aload_n 0, 1), (75, .getfield 33, 3)]) (S2 := (78, [some (.ref 7), z1, z2, some (.int v3), z4, z5], [.int (M.1 7 5), .int (M.1 7 6)], M)) (by decide +kernel) (hO := mm_own_66) rfl ?_
    refine mm_R_ige (t := 154) rfl rfl rfl (fun hc => ?_) (fun hc => ?_)
    · replace h := mm_ip hc h
      refine mm_Runs.seq (l := [(81, .iconst 0, 1), (82, .istore 4, 2)]) (S2 := (84, [some (.ref 7), z1, z2, some (.int v3), some (.int (0 : Int32)), z5], [], M)) (by decide +kernel) (hO := mm_own_66) rfl ?_
      have hp : mp_66_84 L xs p n (d + 1) v3 (0 : Int32) M o := by
        refine ms_66_L84 ha hd h hA (fun r2 M1 h => ?_)
        intro y3 y4 y5 y6
        show mm_Runs L xs (d + 1) 66 (134, [some (.ref 7), y3, y4, some (.int v3), y5, y6], [], M1) o
        exact (ms_66_j134 ha hd h hA : mp_66_134 L xs p n (d + 1) v3 M1 o) y3 y4 y5 y6
      exact hp z1 z2 z5
    · replace h := mm_iq hc h
      cases h
      exact (show mp_66_154 L xs p n (d + 1) M o from hA) z1 z2 (some (.int v3)) z4 z5
  · replace h := mm_iq hc h
    cases h
    exact (show mp_66_154 L xs p n (d + 1) M o from hA) z1 z2 (some (.int v3)) z4 z5
theorem ms_66_L62 {L : Nat} {xs : Nat → Int32} {p : Nat} {n : Nat} {d : Nat} (ha : mm_aat 0 p = some n) (hd : 3 ≤ d) {v3 : Int32} {β : Type} {K : β → mm_M → mm_E → Prop} {F : (Unit) → mm_M → mm_O β} {M : mm_M} {q : (β ⊕ Nat) × mm_M} {o : mm_E} (h : mm_B (mf_66_L62 p n v3 M) F = some q) (hA : mm_A K q o) (hx : ∀ (r : (Unit)) (M2 : mm_M), F r M2 = some q → (fun r M o => mp_66_154 L xs p n (d) M o) r M2 o) : mp_66_62 L xs p n d v3 M o := mm_R_loop (s := v3) (M := M) (P := (fun s M o => mp_66_62 L xs p n (d) s M o)) (X := (fun r M o => mp_66_154 L xs p n (d) M o)) h hA (fun s M q hq hA => ms_66_b62 ha hd hq hA) hx
def mp_66_156 (L : Nat) (xs : Nat → Int32) (p : Nat) (n : Nat) (d : Nat) (v3 : Int32) (M : mm_M) (o : mm_E) : Prop := ∀ z1 z2 z4 z5 : Option Value, mm_Runs L xs d 66 (156, [some (.ref 7), z1, z2, some (.int v3), z4, z5], [], M) o
def mp_66_177 (L : Nat) (xs : Nat → Int32) (p : Nat) (n : Nat) (d : Nat) (M : mm_M) (o : mm_E) : Prop := ∀ z1 z2 z3 z4 z5 : Option Value, mm_Runs L xs d 66 (177, [some (.ref 7), z1, z2, z3, z4, z5], [], M) o
noncomputable def mf_66_b156 (p : Nat) (n : Nat) (v3 : Int32) (M : mm_M) : mm_O ((Int32) ⊕ (Unit)) := if v3 < (M.1 7 5) then (if mm_in v3 12500 then some (.inl (.inl (v3 + (1 : Int32))), (mm_pi M 10 v3.toNatClampNeg v3)) else none) else (some (.inl (.inr ()), M))
noncomputable def mf_66_L156 (p : Nat) (n : Nat) (s : Int32) (M : mm_M) : mm_O (Unit) := mm_L (fun s M => mf_66_b156 p n s M) s M
set_option maxRecDepth 8000 in
set_option maxHeartbeats 4000000 in
theorem ms_66_b156 {L : Nat} {xs : Nat → Int32} {p : Nat} {n : Nat} {d : Nat} (ha : mm_aat 0 p = some n) (hd : 3 ≤ d) {v3 : Int32} {M : mm_M} {q : (((Int32) ⊕ (Unit)) ⊕ Nat) × mm_M} {o : mm_E} (h : mf_66_b156 p n v3 M = some q) (hA : mm_A (mm_K2 (fun s M o => mp_66_156 L xs p n (d) s M o) (fun r M o => mp_66_177 L xs p n (d) M o)) q o) : mp_66_156 L xs p n d v3 M o := by
  unfold mf_66_b156 at h
  obtain ⟨d, rfl⟩ := mm_d1 (n := 2) hd
  intro z1 z2 z4 z5
  show mm_Runs L xs (d + 1) 66 (156, [some (.ref 7), z1, z2, some (.int v3), z4, z5], [], M) o
  refine mm_Runs.seq (l := [(156, .iload_n 3, 1), (157, .aload_n 0, 1), (158, .getfield 33, 3)]) (S2 := (161, [some (.ref 7), z1, z2, some (.int v3), z4, z5], [.int (M.1 7 5), .int v3], M)) (by decide +kernel) (hO := mm_own_66) rfl ?_
  refine mm_R_ige (t := 177) rfl rfl rfl (fun hc => ?_) (fun hc => ?_)
  · replace h := mm_ip hc h
    refine mm_Runs.seq (l := [(164, .aload_n 0, 1), (165, .getfield 18, 3), (168, .iload_n 3, 1), (169, .iload_n 3, 1)]) (S2 := (170, [some (.ref 7), z1, z2, some (.int v3), z4, z5], [.int v3, .int v3, .ref 10], M)) (by decide +kernel) (hO := mm_own_66) rfl ?_
    obtain ⟨hb, h⟩ := mm_gd h
    refine mm_R_iast rfl rfl hb ?_
    refine mm_Runs.seq (l := [(171, .iinc 3 1, 3), (174, .goto (-18), 3)]) (S2 := (156, [some (.ref 7), z1, (mm_no2 z2), some (.int (v3 + (1 : Int32))), z4, z5], [], (mm_pi M 10 v3.toNatClampNeg v3))) (by decide +kernel) (hO := mm_own_66) rfl ?_
    cases h
    exact (show mp_66_156 L xs p n (d + 1) (v3 + (1 : Int32)) (mm_pi M 10 v3.toNatClampNeg v3) o from hA) z1 ((mm_no2 z2)) z4 z5
  · replace h := mm_iq hc h
    cases h
    exact (show mp_66_177 L xs p n (d + 1) M o from hA) z1 z2 (some (.int v3)) z4 z5
theorem ms_66_L156 {L : Nat} {xs : Nat → Int32} {p : Nat} {n : Nat} {d : Nat} (ha : mm_aat 0 p = some n) (hd : 3 ≤ d) {v3 : Int32} {β : Type} {K : β → mm_M → mm_E → Prop} {F : (Unit) → mm_M → mm_O β} {M : mm_M} {q : (β ⊕ Nat) × mm_M} {o : mm_E} (h : mm_B (mf_66_L156 p n v3 M) F = some q) (hA : mm_A K q o) (hx : ∀ (r : (Unit)) (M2 : mm_M), F r M2 = some q → (fun r M o => mp_66_177 L xs p n (d) M o) r M2 o) : mp_66_156 L xs p n d v3 M o := mm_R_loop (s := v3) (M := M) (P := (fun s M o => mp_66_156 L xs p n (d) s M o)) (X := (fun r M o => mp_66_177 L xs p n (d) M o)) h hA (fun s M q hq hA => ms_66_b156 ha hd hq hA) hx
noncomputable def mf_66_j177 (p : Nat) (n : Nat) (M : mm_M) : mm_O Unit := mm_B (mf_67 (M.1 7 6) M) (fun _ M1 => some (.inl (), M1))
set_option maxRecDepth 8000 in
set_option maxHeartbeats 4000000 in
theorem ms_66_j177 {L : Nat} {xs : Nat → Int32} {p : Nat} {n : Nat} {d : Nat} (ha : mm_aat 0 p = some n) (hd : 3 ≤ d) {M : mm_M} {q : (Unit ⊕ Nat) × mm_M} {o : mm_E} (h : mf_66_j177 p n M = some q) (hA : mm_A (mm_Kr mm_wv) q o) : mp_66_177 L xs p n d M o := by
  unfold mf_66_j177 at h
  obtain ⟨d, rfl⟩ := mm_d1 (n := 2) hd
  intro z1 z2 z3 z4 z5
  show mm_Runs L xs (d + 1) 66 (177, [some (.ref 7), z1, z2, z3, z4, z5], [], M) o
  refine mm_Runs.seq (l := [(177, .aload_n 0, 1), (178, .aload_n 0, 1), (179, .getfield 44, 3)]) (S2 := (182, [some (.ref 7), z1, z2, z3, z4, z5], [.int (M.1 7 6), .ref 7], M)) (by decide +kernel) (hO := mm_own_66) rfl ?_
  refine mm_R_call (v := mm_wv) h hA (k2 := 67) (as := [.ref 7, .int (M.1 7 6)]) (r := []) rfl (fun _ => rfl) (fun q hq o ho => ms_67 (by omega) hq ho) (fun _ M1 h => ?_)
  show mm_Runs L xs (d + 1) 66 (185, [some (.ref 7), z1, z2, z3, z4, z5], [], M1) o
  cases h
  exact mm_R_retv rfl rfl hA
noncomputable def mf_66_j48 (p : Nat) (n : Nat) (M : mm_M) : mm_O Unit := mm_B (mf_67 (256 : Int32) M) (fun _ M1 => mm_B (mf_68 (0 : Int32) M1) (fun _ M2 => mm_B (mf_66_L62 p n (1 : Int32) M2) (fun r4 M3 => mm_B (mf_66_L156 p n (0 : Int32) M3) (fun r11 M10 => mf_66_j177 p n M10))))
set_option maxRecDepth 8000 in
set_option maxHeartbeats 4000000 in
theorem ms_66_j48 {L : Nat} {xs : Nat → Int32} {p : Nat} {n : Nat} {d : Nat} (ha : mm_aat 0 p = some n) (hd : 3 ≤ d) {M : mm_M} {q : (Unit ⊕ Nat) × mm_M} {o : mm_E} (h : mf_66_j48 p n M = some q) (hA : mm_A (mm_Kr mm_wv) q o) : mp_66_48 L xs p n d M o := by
  unfold mf_66_j48 at h
  obtain ⟨d, rfl⟩ := mm_d1 (n := 2) hd
  intro z1 z2 z3 z4 z5
  show mm_Runs L xs (d + 1) 66 (48, [some (.ref 7), z1, z2, z3, z4, z5], [], M) o
  refine mm_Runs.seq (l := [(48, .aload_n 0, 1), (49, .sipush 256, 3)]) (S2 := (52, [some (.ref 7), z1, z2, z3, z4, z5], [.int (256 : Int32), .ref 7], M)) (by decide +kernel) (hO := mm_own_66) rfl ?_
  refine mm_R_call (v := mm_wv) h hA (k2 := 67) (as := [.ref 7, .int (256 : Int32)]) (r := []) rfl (fun _ => rfl) (fun q hq o ho => ms_67 (by omega) hq ho) (fun _ M1 h => ?_)
  show mm_Runs L xs (d + 1) 66 (55, [some (.ref 7), z1, z2, z3, z4, z5], [], M1) o
  refine mm_Runs.seq (l := [(55, .aload_n 0, 1), (56, .iconst 0, 1)]) (S2 := (57, [some (.ref 7), z1, z2, z3, z4, z5], [.int (0 : Int32), .ref 7], M1)) (by decide +kernel) (hO := mm_own_66) rfl ?_
  refine mm_R_call (v := mm_wv) h hA (k2 := 68) (as := [.ref 7, .int (0 : Int32)]) (r := []) rfl (fun _ => rfl) (fun q hq o ho => ms_68 (by omega) hq ho) (fun _ M2 h => ?_)
  show mm_Runs L xs (d + 1) 66 (60, [some (.ref 7), z1, z2, z3, z4, z5], [], M2) o
  refine mm_Runs.seq (l := [(60, .iconst 1, 1), (61, .istore_n 3, 1)]) (S2 := (62, [some (.ref 7), z1, (mm_no2 z2), some (.int (1 : Int32)), z4, z5], [], M2)) (by decide +kernel) (hO := mm_own_66) rfl ?_
  have hp : mp_66_62 L xs p n (d + 1) (1 : Int32) M2 o := by
    refine ms_66_L62 ha hd h hA (fun r4 M3 h => ?_)
    intro y5 y6 y7 y8 y9
    show mm_Runs L xs (d + 1) 66 (154, [some (.ref 7), y5, y6, y7, y8, y9], [], M3) o
    refine mm_Runs.seq (l := [(154, .iconst 0, 1), (155, .istore_n 3, 1)]) (S2 := (156, [some (.ref 7), y5, (mm_no2 y6), some (.int (0 : Int32)), y8, y9], [], M3)) (by decide +kernel) (hO := mm_own_66) rfl ?_
    have hp : mp_66_156 L xs p n (d + 1) (0 : Int32) M3 o := by
      refine ms_66_L156 ha hd h hA (fun r11 M10 h => ?_)
      intro y12 y13 y14 y15 y16
      show mm_Runs L xs (d + 1) 66 (177, [some (.ref 7), y12, y13, y14, y15, y16], [], M10) o
      exact (ms_66_j177 ha hd h hA : mp_66_177 L xs p n (d + 1) M10 o) y12 y13 y14 y15 y16
    exact hp y5 ((mm_no2 y6)) y8 y9
  exact hp z1 ((mm_no2 z2)) z4 z5
noncomputable def mf_66 (p : Nat) (n : Nat) (v2 : Int32) (M : mm_M) : mm_O Unit := mm_B (mf_66_L18 p n (0 : Int32) (mm_pi M 7 5 (mm_min v2 (mm_min (Int32.ofNat n) (12500 : Int32))))) (fun r2 M1 => mf_66_j48 p n M1)
set_option maxRecDepth 8000 in
set_option maxHeartbeats 4000000 in
theorem ms_66 {L : Nat} {xs : Nat → Int32} {p : Nat} {n : Nat} {d : Nat} (ha : mm_aat 0 p = some n) (hd : 3 ≤ d) {v2 : Int32} {M : mm_M} {q : (Unit ⊕ Nat) × mm_M} {o : mm_E} (h : mf_66 p n v2 M = some q) (hA : mm_A (mm_Kr mm_wv) q o) : mm_Runs L xs d 66 (0, mm_ent (mm_ml 66) [.ref 7, .ref p, .int v2], [], M) o := by
  unfold mf_66 at h
  obtain ⟨d, rfl⟩ := mm_d1 (n := 2) hd
  show mm_Runs L xs (d + 1) 66 (0, [some (.ref 7), some (.ref p), some (.int v2), none, none, none], [], M) o
  refine mm_Runs.seq (l := [(0, .aload_n 0, 1), (1, .iload_n 2, 1), (2, .aload_n 1, 1)]) (S2 := (3, [some (.ref 7), some (.ref p), some (.int v2), none, none, none], [.ref p, .int v2, .ref 7], M)) (by decide +kernel) (hO := mm_own_66) rfl ?_
  refine mm_R_alen rfl ha ?_
  refine mm_Runs.seq (l := [(4, .sipush 12500, 3)]) (S2 := (7, [some (.ref 7), some (.ref p), some (.int v2), none, none, none], [.int (12500 : Int32), .int (Int32.ofNat n), .int v2, .ref 7], M)) (by decide +kernel) (hO := mm_own_66) rfl ?_
  refine mm_R_intr (st2 := [.int (mm_min (Int32.ofNat n) (12500 : Int32)), .int v2, .ref 7]) (M2 := M) rfl rfl (by omega) ?_
  refine mm_R_intr (st2 := [.int (mm_min v2 (mm_min (Int32.ofNat n) (12500 : Int32))), .ref 7]) (M2 := M) rfl rfl (by omega) ?_
  refine mm_Runs.seq (l := [(13, .putfield 33, 3), (16, .iconst 0, 1), (17, .istore_n 3, 1)]) (S2 := (18, [some (.ref 7), some (.ref p), some (.int v2), some (.int (0 : Int32)), none, none], [], (mm_pi M 7 5 (mm_min v2 (mm_min (Int32.ofNat n) (12500 : Int32)))))) (by decide +kernel) (hO := mm_own_66) rfl ?_
  have hp : mp_66_18 L xs p n (d + 1) (0 : Int32) (mm_pi M 7 5 (mm_min v2 (mm_min (Int32.ofNat n) (12500 : Int32)))) o := by
    refine ms_66_L18 ha hd h hA (fun r2 M1 h => ?_)
    intro y3 y4 y5 y6 y7
    show mm_Runs L xs (d + 1) 66 (48, [some (.ref 7), y3, y4, y5, y6, y7], [], M1) o
    exact (ms_66_j48 ha hd h hA : mp_66_48 L xs p n (d + 1) M1 o) y3 y4 y5 y6 y7
  exact hp (some (.int v2)) none none
