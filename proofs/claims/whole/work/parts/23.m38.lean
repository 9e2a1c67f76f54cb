/-! MEANINGS 38 -/
-- 277: PlainPacksModel.writeOccurring(I)V (depth 3)
theorem mm_own_277 : mm_own 277 = 12 := rfl
def mp_277_2 (L : Nat) (xs : Nat → Int32) (d : Nat) (v1 : Int32) (v2 : Int32) (M : mm_M) (o : mm_E) : Prop := ∀ z3 z4 : Option Value, mm_Runs L xs d 277 (2, [some (.ref 84), some (.int v1), some (.int v2), z3, z4], [], M) o
def mp_277_22 (L : Nat) (xs : Nat → Int32) (d : Nat) (v1 : Int32) (M : mm_M) (o : mm_E) : Prop := ∀ z2 z3 z4 : Option Value, mm_Runs L xs d 277 (22, [some (.ref 84), some (.int v1), z2, z3, z4], [], M) o
noncomputable def mf_277_b2 (v1 : Int32) (v2 : Int32) (M : mm_M) : mm_O ((Int32) ⊕ (Unit)) := if v2 < (256 : Int32) then (if mm_in v2 12600 then some (.inl (.inl (v2 + (1 : Int32))), (mm_pi M 104 v2.toNatClampNeg (0 : Int32))) else none) else (some (.inl (.inr ()), M))
noncomputable def mf_277_L2 (v1 : Int32) (s : Int32) (M : mm_M) : mm_O (Unit) := mm_L (fun s M => mf_277_b2 v1 s M) s M
set_option maxRecDepth 8000 in
set_option maxHeartbeats 4000000 in
theorem ms_277_b2 {L : Nat} {xs : Nat → Int32} {d : Nat} (hd : 3 ≤ d) {v1 : Int32} {v2 : Int32} {M : mm_M} {q : (((Int32) ⊕ (Unit)) ⊕ Nat) × mm_M} {o : mm_E} (h : mf_277_b2 v1 v2 M = some q) (hA : mm_A (mm_K2 (fun s M o => mp_277_2 L xs (d) v1 s M o) (fun r M o => mp_277_22 L xs (d) v1 M o)) q o) : mp_277_2 L xs d v1 v2 M o := by
  unfold mf_277_b2 at h
  obtain ⟨d, rfl⟩ := mm_d1 (n := 2) hd
  intro z3 z4
  show mm_Runs L xs (d + 1) 277 (2, [some (.ref 84), some (.int v1), some (.int v2), z3, z4], [], M) o
  refine mm_Runs.seq (l := [(2, .iload_n 2, 1), (3, .sipush 256, 3)]) (S2 := (6, [some (.ref 84), some (.int v1), some (.int v2), z3, z4], [.int (256 : Int32), .int v2], M)) (by decide +kernel) (hO := mm_own_277) rfl ?_
  refine mm_R_ige (t := 22) rfl rfl rfl (fun hc => ?_) (fun hc => ?_)
  · replace h := mm_ip hc h
    refine mm_Runs.seq (l := [(9, .aload_n 0, 1), (10, .getfield 69, 3), (13, .iload_n 2, 1), (14, .iconst 0, 1)]) (S2 := (15, [some (.ref 84), some (.int v1), some (.int v2), z3, z4], [.int (0 : Int32), .int v2, .ref 104], M)) (by decide +kernel) (hO := mm_own_277) rfl ?_
    obtain ⟨hb, h⟩ := mm_gd h
    refine mm_R_iast rfl rfl hb ?_
    refine mm_Runs.seq (l := [(16, .iinc 2 1, 3), (19, .goto (-17), 3)]) (S2 := (2, [some (.ref 84), some (.int v1), some (.int (v2 + (1 : Int32))), z3, z4], [], (mm_pi M 104 v2.toNatClampNeg (0 : Int32)))) (by decide +kernel) (hO := mm_own_277) rfl ?_
    cases h
    exact (show mp_277_2 L xs (d + 1) v1 (v2 + (1 : Int32)) (mm_pi M 104 v2.toNatClampNeg (0 : Int32)) o from hA) z3 z4
  · replace h := mm_iq hc h
    cases h
    exact (show mp_277_22 L xs (d + 1) v1 M o from hA) (some (.int v2)) z3 z4
theorem ms_277_L2 {L : Nat} {xs : Nat → Int32} {d : Nat} (hd : 3 ≤ d) {v1 : Int32} {v2 : Int32} {β : Type} {K : β → mm_M → mm_E → Prop} {F : (Unit) → mm_M → mm_O β} {M : mm_M} {q : (β ⊕ Nat) × mm_M} {o : mm_E} (h : mm_B (mf_277_L2 v1 v2 M) F = some q) (hA : mm_A K q o) (hx : ∀ (r : (Unit)) (M2 : mm_M), F r M2 = some q → (fun r M o => mp_277_22 L xs (d) v1 M o) r M2 o) : mp_277_2 L xs d v1 v2 M o := mm_R_loop (s := v2) (M := M) (P := (fun s M o => mp_277_2 L xs (d) v1 s M o)) (X := (fun r M o => mp_277_22 L xs (d) v1 M o)) h hA (fun s M q hq hA => ms_277_b2 hd hq hA) hx
def mp_277_24 (L : Nat) (xs : Nat → Int32) (d : Nat) (v1 : Int32) (v2 : Int32) (M : mm_M) (o : mm_E) : Prop := ∀ z3 z4 : Option Value, mm_Runs L xs d 277 (24, [some (.ref 84), some (.int v1), some (.int v2), z3, z4], [], M) o
def mp_277_47 (L : Nat) (xs : Nat → Int32) (d : Nat) (M : mm_M) (o : mm_E) : Prop := ∀ z1 z2 z3 z4 : Option Value, mm_Runs L xs d 277 (47, [some (.ref 84), z1, z2, z3, z4], [], M) o
noncomputable def mf_277_b24 (v1 : Int32) (v2 : Int32) (M : mm_M) : mm_O ((Int32) ⊕ (Unit)) := if v2 < v1 then (if mm_in v2 12600 then if mm_in (M.1 102 v2.toNatClampNeg) 12600 then some (.inl (.inl (v2 + (1 : Int32))), (mm_pi M 104 (M.1 102 v2.toNatClampNeg).toNatClampNeg (1 : Int32))) else none else none) else (some (.inl (.inr ()), M))
noncomputable def mf_277_L24 (v1 : Int32) (s : Int32) (M : mm_M) : mm_O (Unit) := mm_L (fun s M => mf_277_b24 v1 s M) s M
set_option maxRecDepth 8000 in
set_option maxHeartbeats 4000000 in
theorem ms_277_b24 {L : Nat} {xs : Nat → Int32} {d : Nat} (hd : 3 ≤ d) {v1 : Int32} {v2 : Int32} {M : mm_M} {q : (((Int32) ⊕ (Unit)) ⊕ Nat) × mm_M} {o : mm_E} (h : mf_277_b24 v1 v2 M = some q) (hA : mm_A (mm_K2 (fun s M o => mp_277_24 L xs (d) v1 s M o) (fun r M o => mp_277_47 L xs (d) M o)) q o) : mp_277_24 L xs d v1 v2 M o := by
  unfold mf_277_b24 at h
  obtain ⟨d, rfl⟩ := mm_d1 (n := 2) hd
  intro z3 z4
  show mm_Runs L xs (d + 1) 277 (24, [some (.ref 84), some (.int v1), some (.int v2), z3, z4], [], M) o
  refine mm_Runs.seq (l := [(24, .iload_n 2, 1), (25, .iload_n 1, 1)]) (S2 := (26, [some (.ref 84), some (.int v1), some (.int v2), z3, z4], [.int v1, .int v2], M)) (by decide +kernel) (hO := mm_own_277) rfl ?_
  refine mm_R_ige (t := 47) rfl rfl rfl (fun hc => ?_) (fun hc => ?_)
  · replace h := mm_ip hc h
    refine mm_Runs.seq (l := [(29, .aload_n 0, 1), (30, .getfield 69, 3), (33, .aload_n 0, 1), (34, .getfield 63, 3), (37, .iload_n 2, 1)]) (S2 := (38, [some (.ref 84), some (.int v1), some (.int v2), z3, z4], [.int v2, .ref 102, .ref 104], M)) (by decide +kernel) (hO := mm_own_277) rfl ?_
    obtain ⟨hb, h⟩ := mm_gd h
    refine mm_R_iald rfl rfl hb ?_
    refine mm_Runs.seq (l := [(39, .iconst 1, 1)]) (S2 := (40, [some (.ref 84), some (.int v1), some (.int v2), z3, z4], [.int (1 : Int32), .int (M.1 102 v2.toNatClampNeg), .ref 104], M)) (by decide +kernel) (hO := mm_own_277) rfl ?_
    obtain ⟨hb, h⟩ := mm_gd h
    refine mm_R_iast rfl rfl hb ?_
    refine mm_Runs.seq (l := [(41, .iinc 2 1, 3), (44, .goto (-20), 3)]) (S2 := (24, [some (.ref 84), some (.int v1), some (.int (v2 + (1 : Int32))), z3, z4], [], (mm_pi M 104 (M.1 102 v2.toNatClampNeg).toNatClampNeg (1 : Int32)))) (by decide +kernel) (hO := mm_own_277) rfl ?_
    cases h
    exact (show mp_277_24 L xs (d + 1) v1 (v2 + (1 : Int32)) (mm_pi M 104 (M.1 102 v2.toNatClampNeg).toNatClampNeg (1 : Int32)) o from hA) z3 z4
  · replace h := mm_iq hc h
    cases h
    exact (show mp_277_47 L xs (d + 1) M o from hA) (some (.int v1)) (some (.int v2)) z3 z4
theorem ms_277_L24 {L : Nat} {xs : Nat → Int32} {d : Nat} (hd : 3 ≤ d) {v1 : Int32} {v2 : Int32} {β : Type} {K : β → mm_M → mm_E → Prop} {F : (Unit) → mm_M → mm_O β} {M : mm_M} {q : (β ⊕ Nat) × mm_M} {o : mm_E} (h : mm_B (mf_277_L24 v1 v2 M) F = some q) (hA : mm_A K q o) (hx : ∀ (r : (Unit)) (M2 : mm_M), F r M2 = some q → (fun r M o => mp_277_47 L xs (d) M o) r M2 o) : mp_277_24 L xs d v1 v2 M o := mm_R_loop (s := v2) (M := M) (P := (fun s M o => mp_277_24 L xs (d) v1 s M o)) (X := (fun r M o => mp_277_47 L xs (d) M o)) h hA (fun s M q hq hA => ms_277_b24 hd hq hA) hx
def mp_277_54 (L : Nat) (xs : Nat → Int32) (d : Nat) (v2 : Int32) (M : mm_M) (o : mm_E) : Prop := ∀ z1 z3 z4 : Option Value, mm_Runs L xs d 277 (54, [some (.ref 84), z1, some (.int v2), z3, z4], [], M) o
def mp_277_97 (L : Nat) (xs : Nat → Int32) (d : Nat) (M : mm_M) (o : mm_E) : Prop := ∀ z1 z2 z3 z4 : Option Value, mm_Runs L xs d 277 (97, [some (.ref 84), z1, z2, z3, z4], [], M) o
noncomputable def mf_277_b54 (v2 : Int32) (M : mm_M) : mm_O ((Int32) ⊕ (Unit)) := if v2 < (256 : Int32) then (if mm_in v2 12600 then if (M.1 104 v2.toNatClampNeg) = (1 : Int32) then (if mm_in (M.1 84 20) 256 then some (.inl (.inl (v2 + (1 : Int32))), (mm_pi (mm_pi M 94 (M.1 84 20).toNatClampNeg v2) 84 20 ((M.1 84 20) + (1 : Int32)))) else none) else (some (.inl (.inl (v2 + (1 : Int32))), M)) else none) else (some (.inl (.inr ()), M))
noncomputable def mf_277_L54 (s : Int32) (M : mm_M) : mm_O (Unit) := mm_L (fun s M => mf_277_b54 s M) s M
set_option maxRecDepth 8000 in
set_option maxHeartbeats 4000000 in
theorem ms_277_b54 {L : Nat} {xs : Nat → Int32} {d : Nat} (hd : 3 ≤ d) {v2 : Int32} {M : mm_M} {q : (((Int32) ⊕ (Unit)) ⊕ Nat) × mm_M} {o : mm_E} (h : mf_277_b54 v2 M = some q) (hA : mm_A (mm_K2 (fun s M o => mp_277_54 L xs (d) s M o) (fun r M o => mp_277_97 L xs (d) M o)) q o) : mp_277_54 L xs d v2 M o := by
  unfold mf_277_b54 at h
  obtain ⟨d, rfl⟩ := mm_d1 (n := 2) hd
  intro z1 z3 z4
  show mm_Runs L xs (d + 1) 277 (54, [some (.ref 84), z1, some (.int v2), z3, z4], [], M) o
  refine mm_Runs.seq (l := [(54, .iload_n 2, 1), (55, .sipush 256, 3)]) (S2 := (58, [some (.ref 84), z1, some (.int v2), z3, z4], [.int (256 : Int32), .int v2], M)) (by decide +kernel) (hO := mm_own_277) rfl ?_
  refine mm_R_ige (t := 97) rfl rfl rfl (fun hc => ?_) (fun hc => ?_)
  · replace h := mm_ip hc h
    refine mm_Runs.seq (l := [(61, .aload_n 0, 1), (62, .getfield 69, 3), (65, .iload_n 2, 1)]) (S2 := (66, [some (.ref 84), z1, some (.int v2), z3, z4], [.int v2, .ref 104], M)) (by decide +kernel) (hO := mm_own_277) rfl ?_
    obtain ⟨hb, h⟩ := mm_gd h
    refine mm_R_iald rfl rfl hb ?_
    refine mm_Runs.seq (l := [(67, .iconst 1, 1)]) (S2 := (68, [some (.ref 84), z1, some (.int v2), z3, z4], [.int (1 : Int32), .int (M.1 104 v2.toNatClampNeg)], M)) (by decide +kernel) (hO := mm_own_277) rfl ?_
    refine mm_R_ine (t := 91) rfl rfl rfl (fun hc => ?_) (fun hc => ?_)
    · replace h := mm_ip hc h
      refine mm_Runs.seq (l := [(71, .aload_n 0, 1), (72, .getfield 38, 3), (75, .aload_n 0, 1), (76, .getfield 215, 3), (79, .iload_n 2, 1)]) (S2 := (80, [some (.ref 84), z1, some (.int v2), z3, z4], [.int v2, .int (M.1 84 20), .ref 94], M)) (by decide +kernel) (hO := mm_own_277) rfl ?_
      obtain ⟨hb, h⟩ := mm_gd h
      refine mm_R_iast rfl rfl hb ?_
      refine mm_Runs.seq (l := [(81, .aload_n 0, 1), (82, .dup, 1), (83, .getfield 215, 3), (86, .iconst 1, 1), (87, .iadd, 1), (88, .putfield 215, 3), (91, .iinc 2 1, 3), (94, .goto (-40), 3)]) (S2 := (54, [some (.ref 84), (mm_no2 z1), some (.int (v2 + (1 : Int32))), z3, z4], [], (mm_pi (mm_pi M 94 (M.1 84 20).toNatClampNeg v2) 84 20 ((M.1 84 20) + (1 : Int32))))) (by decide +kernel) (hO := mm_own_277) rfl ?_
      cases h
      exact (show mp_277_54 L xs (d + 1) (v2 + (1 : Int32)) (mm_pi (mm_pi M 94 (M.1 84 20).toNatClampNeg v2) 84 20 ((M.1 84 20) + (1 : Int32))) o from hA) ((mm_no2 z1)) z3 z4
    · replace h := mm_iq hc h
      refine mm_Runs.seq (l := [(91, .iinc 2 1, 3), (94, .goto (-40), 3)]) (S2 := (54, [some (.ref 84), (mm_no2 z1), some (.int (v2 + (1 : Int32))), z3, z4], [], M)) (by decide +kernel) (hO := mm_own_277) rfl ?_
      cases h
      exact (show mp_277_54 L xs (d + 1) (v2 + (1 : Int32)) M o from hA) ((mm_no2 z1)) z3 z4
  · replace h := mm_iq hc h
    cases h
    exact (show mp_277_97 L xs (d + 1) M o from hA) z1 (some (.int v2)) z3 z4
theorem ms_277_L54 {L : Nat} {xs : Nat → Int32} {d : Nat} (hd : 3 ≤ d) {v2 : Int32} {β : Type} {K : β → mm_M → mm_E → Prop} {F : (Unit) → mm_M → mm_O β} {M : mm_M} {q : (β ⊕ Nat) × mm_M} {o : mm_E} (h : mm_B (mf_277_L54 v2 M) F = some q) (hA : mm_A K q o) (hx : ∀ (r : (Unit)) (M2 : mm_M), F r M2 = some q → (fun r M o => mp_277_97 L xs (d) M o) r M2 o) : mp_277_54 L xs d v2 M o := mm_R_loop (s := v2) (M := M) (P := (fun s M o => mp_277_54 L xs (d) s M o)) (X := (fun r M o => mp_277_97 L xs (d) M o)) h hA (fun s M q hq hA => ms_277_b54 hd hq hA) hx
def mp_277_99 (L : Nat) (xs : Nat → Int32) (d : Nat) (v2 : Int32) (M : mm_M) (o : mm_E) : Prop := ∀ z1 z3 z4 : Option Value, mm_Runs L xs d 277 (99, [some (.ref 84), z1, some (.int v2), z3, z4], [], M) o
def mp_277_156 (L : Nat) (xs : Nat → Int32) (d : Nat) (M : mm_M) (o : mm_E) : Prop := ∀ z1 z2 z3 z4 : Option Value, mm_Runs L xs d 277 (156, [some (.ref 84), z1, z2, z3, z4], [], M) o
def mp_277_110 (L : Nat) (xs : Nat → Int32) (d : Nat) (v2 : Int32) (v3 : Int32) (v4 : Int32) (M : mm_M) (o : mm_E) : Prop := ∀ z1 : Option Value, mm_Runs L xs d 277 (110, [some (.ref 84), z1, some (.int v2), some (.int v3), some (.int v4)], [], M) o
def mp_277_138 (L : Nat) (xs : Nat → Int32) (d : Nat) (v2 : Int32) (v3 : Int32) (M : mm_M) (o : mm_E) : Prop := ∀ z1 z4 : Option Value, mm_Runs L xs d 277 (138, [some (.ref 84), z1, some (.int v2), some (.int v3), z4], [], M) o
noncomputable def mf_277_b110 (v2 : Int32) (v3 : Int32) (v4 : Int32) (M : mm_M) : mm_O ((Int32 × Int32) ⊕ (Int32)) := if v4 < (16 : Int32) then (if mm_in (((16 : Int32) * v2) + v4) 12600 then some (.inl (.inl ((v3 ||| (M.1 104 (((16 : Int32) * v2) + v4).toNatClampNeg)), (v4 + (1 : Int32)))), M) else none) else (some (.inl (.inr v3), M))
noncomputable def mf_277_L110 (v2 : Int32) (s : Int32 × Int32) (M : mm_M) : mm_O (Int32) := mm_L (fun s M => mf_277_b110 v2 s.1 s.2 M) s M
set_option maxRecDepth 8000 in
set_option maxHeartbeats 4000000 in
theorem ms_277_b110 {L : Nat} {xs : Nat → Int32} {d : Nat} (hd : 3 ≤ d) {v2 : Int32} {v3 : Int32} {v4 : Int32} {M : mm_M} {q : (((Int32 × Int32) ⊕ (Int32)) ⊕ Nat) × mm_M} {o : mm_E} (h : mf_277_b110 v2 v3 v4 M = some q) (hA : mm_A (mm_K2 (fun s M o => mp_277_110 L xs (d) v2 s.1 s.2 M o) (fun r M o => mp_277_138 L xs (d) v2 r M o)) q o) : mp_277_110 L xs d v2 v3 v4 M o := by
  unfold mf_277_b110 at h
  obtain ⟨d, rfl⟩ := mm_d1 (n := 2) hd
  intro z1
  show mm_Runs L xs (d + 1) 277 (110, [some (.ref 84), z1, some (.int v2), some (.int v3), some (.int v4)], [], M) o
  refine mm_Runs.seq (l := [(110, .iload 4, 2), (112, .bipush 16, 2)]) (S2 := (114, [some (.ref 84), z1, some (.int v2), some (.int v3), some (.int v4)], [.int (16 : Int32), .int v4], M)) (by decide +kernel) (hO := mm_own_277) rfl ?_
  refine mm_R_ige (t := 138) rfl rfl rfl (fun hc => ?_) (fun hc => ?_)
  · replace h := mm_ip hc h
    refine mm_Runs.seq (l := [(117, .iload_n 3, 1), (118, .aload_n 0, 1), (119, .getfield 69, 3), (122, .bipush 16, 2), (124, .iload_n 2, 1), (125, .imul, 1), (126, .iload 4, 2), (128, .iadd, 1)]) (S2 := (129, [some (.ref 84), z1, some (.int v2), some (.int v3), some (.int v4)], [.int (((16 : Int32) * v2) + v4), .ref 104, .int v3], M)) (by decide +kernel) (hO := mm_own_277) rfl ?_
    obtain ⟨hb, h⟩ := mm_gd h
    refine mm_R_iald rfl rfl hb ?_
    refine mm_Runs.seq (l := [(130, .ior, 1), (131, .istore_n 3, 1), (132, .iinc 4 1, 3), (135, .goto (-25), 3)]) (S2 := (110, [some (.ref 84), z1, some (.int v2), some (.int (v3 ||| (M.1 104 (((16 : Int32) * v2) + v4).toNatClampNeg))), some (.int (v4 + (1 : Int32)))], [], M)) (by decide +kernel) (hO := mm_own_277) rfl ?_
    cases h
    exact (show mp_277_110 L xs (d + 1) v2 (v3 ||| (M.1 104 (((16 : Int32) * v2) + v4).toNatClampNeg)) (v4 + (1 : Int32)) M o from hA) z1
  · replace h := mm_iq hc h
    cases h
    exact (show mp_277_138 L xs (d + 1) v2 v3 M o from hA) z1 (some (.int v4))
theorem ms_277_L110 {L : Nat} {xs : Nat → Int32} {d : Nat} (hd : 3 ≤ d) {v2 : Int32} {v3 : Int32} {v4 : Int32} {β : Type} {K : β → mm_M → mm_E → Prop} {F : (Int32) → mm_M → mm_O β} {M : mm_M} {q : (β ⊕ Nat) × mm_M} {o : mm_E} (h : mm_B (mf_277_L110 v2 (v3, v4) M) F = some q) (hA : mm_A K q o) (hx : ∀ (r : (Int32)) (M2 : mm_M), F r M2 = some q → (fun r M o => mp_277_138 L xs (d) v2 r M o) r M2 o) : mp_277_110 L xs d v2 v3 v4 M o := mm_R_loop (s := (v3, v4)) (M := M) (P := (fun s M o => mp_277_110 L xs (d) v2 s.1 s.2 M o)) (X := (fun r M o => mp_277_138 L xs (d) v2 r M o)) h hA (fun s M q hq hA => ms_277_b110 hd hq hA) hx
noncomputable def mf_277_j138 (v2 : Int32) (v3 : Int32) (M : mm_M) : mm_O ((Int32) ⊕ (Unit)) := mm_B (mf_247 v3 M) (fun _ M1 => if mm_in v2 12600 then some (.inl (.inl (v2 + (1 : Int32))), (mm_pi M1 106 v2.toNatClampNeg v3)) else none)
set_option maxRecDepth 8000 in
set_option maxHeartbeats 4000000 in
theorem ms_277_j138 {L : Nat} {xs : Nat → Int32} {d : Nat} (hd : 3 ≤ d) {v2 : Int32} {v3 : Int32} {M : mm_M} {q : (((Int32) ⊕ (Unit)) ⊕ Nat) × mm_M} {o : mm_E} (h : mf_277_j138 v2 v3 M = some q) (hA : mm_A (mm_K2 (fun s M o => mp_277_99 L xs (d) s M o) (fun r M o => mp_277_156 L xs (d) M o)) q o) : mp_277_138 L xs d v2 v3 M o := by
  unfold mf_277_j138 at h
  obtain ⟨d, rfl⟩ := mm_d1 (n := 2) hd
  intro z1 z4
  show mm_Runs L xs (d + 1) 277 (138, [some (.ref 84), z1, some (.int v2), some (.int v3), z4], [], M) o
  refine mm_Runs.seq (l := [(138, .aload_n 0, 1), (139, .iload_n 3, 1)]) (S2 := (140, [some (.ref 84), z1, some (.int v2), some (.int v3), z4], [.int v3, .ref 84], M)) (by decide +kernel) (hO := mm_own_277) rfl ?_
  refine mm_R_call (v := mm_wv) h hA (k2 := 247) (as := [.ref 84, .int v3]) (r := []) rfl (fun _ => rfl) (fun q hq o ho => ms_247 (by omega) hq ho) (fun _ M1 h => ?_)
  show mm_Runs L xs (d + 1) 277 (143, [some (.ref 84), z1, some (.int v2), some (.int v3), z4], [], M1) o
  refine mm_Runs.seq (l := [(143, .aload_n 0, 1), (144, .getfield 75, 3), (147, .iload_n 2, 1), (148, .iload_n 3, 1)]) (S2 := (149, [some (.ref 84), z1, some (.int v2), some (.int v3), z4], [.int v3, .int v2, .ref 106], M1)) (by decide +kernel) (hO := mm_own_277) rfl ?_
  obtain ⟨hb, h⟩ := mm_gd h
  refine mm_R_iast rfl rfl hb ?_
  refine mm_Runs.seq (l := [(150, .iinc 2 1, 3), (153, .goto (-54), 3)]) (S2 := (99, [some (.ref 84), (mm_no2 z1), some (.int (v2 + (1 : Int32))), some (.int v3), z4], [], (mm_pi M1 106 v2.toNatClampNeg v3))) (by decide +kernel) (hO := mm_own_277) rfl ?_
  cases h
  exact (show mp_277_99 L xs (d + 1) (v2 + (1 : Int32)) (mm_pi M1 106 v2.toNatClampNeg v3) o from hA) ((mm_no2 z1)) (some (.int v3)) z4
noncomputable def mf_277_b99 (v2 : Int32) (M : mm_M) : mm_O ((Int32) ⊕ (Unit)) := if v2 < (16 : Int32) then (mm_B (mf_277_L110 v2 ((0 : Int32), (0 : Int32)) M) (fun r2 M1 => mf_277_j138 v2 r2 M1)) else (some (.inl (.inr ()), M))
noncomputable def mf_277_L99 (s : Int32) (M : mm_M) : mm_O (Unit) := mm_L (fun s M => mf_277_b99 s M) s M
set_option maxRecDepth 8000 in
set_option maxHeartbeats 4000000 in
theorem ms_277_b99 {L : Nat} {xs : Nat → Int32} {d : Nat} (hd : 3 ≤ d) {v2 : Int32} {M : mm_M} {q : (((Int32) ⊕ (Unit)) ⊕ Nat) × mm_M} {o : mm_E} (h : mf_277_b99 v2 M = some q) (hA : mm_A (mm_K2 (fun s M o => mp_277_99 L xs (d) s M o) (fun r M o => mp_277_156 L xs (d) M o)) q o) : mp_277_99 L xs d v2 M o := by
  unfold mf_277_b99 at h
  obtain ⟨d, rfl⟩ := mm_d1 (n := 2) hd
  intro z1 z3 z4
  show mm_Runs L xs (d + 1) 277 (99, [some (.ref 84), z1, some (.int v2), z3, z4], [], M) o
  refine mm_Runs.seq (l := [(99, .iload_n 2, 1), (100, .bipush 16, 2)]) (S2 := (102, [some (.ref 84), z1, some (.int v2), z3, z4], [.int (16 : Int32), .int v2], M)) (by decide +kernel) (hO := mm_own_277) rfl ?_
  refine mm_R_ige (t := 156) rfl rfl rfl (fun hc => ?_) (fun hc => ?_)
  · replace h := mm_ip hc h
    refine mm_Runs.seq (l := [(105, .iconst 0, 1), (106, .istore_n 3, 1), (107, .iconst 0, 1), (108, .istore 4, 2)]) (S2 := (110, [some (.ref 84), z1, some (.int v2), some (.int (0 : Int32)), some (.int (0 : Int32))], [], M)) (by decide +kernel) (hO := mm_own_277) rfl ?_
    have hp : mp_277_110 L xs (d + 1) v2 (0 : Int32) (0 : Int32) M o := by
      refine ms_277_L110 hd h hA (fun r2 M1 h => ?_)
      intro y3 y4
      show mm_Runs L xs (d + 1) 277 (138, [some (.ref 84), y3, some (.int v2), some (.int r2), y4], [], M1) o
      exact (ms_277_j138 hd h hA : mp_277_138 L xs (d + 1) v2 r2 M1 o) y3 y4
    exact hp z1
  · replace h := mm_iq hc h
    cases h
    exact (show mp_277_156 L xs (d + 1) M o from hA) z1 (some (.int v2)) z3 z4
theorem ms_277_L99 {L : Nat} {xs : Nat → Int32} {d : Nat} (hd : 3 ≤ d) {v2 : Int32} {β : Type} {K : β → mm_M → mm_E → Prop} {F : (Unit) → mm_M → mm_O β} {M : mm_M} {q : (β ⊕ Nat) × mm_M} {o : mm_E} (h : mm_B (mf_277_L99 v2 M) F = some q) (hA : mm_A K q o) (hx : ∀ (r : (Unit)) (M2 : mm_M), F r M2 = some q → (fun r M o => mp_277_156 L xs (d) M o) r M2 o) : mp_277_99 L xs d v2 M o := mm_R_loop (s := v2) (M := M) (P := (fun s M o => mp_277_99 L xs (d) s M o)) (X := (fun r M o => mp_277_156 L xs (d) M o)) h hA (fun s M q hq hA => ms_277_b99 hd hq hA) hx
def mp_277_158 (L : Nat) (xs : Nat → Int32) (d : Nat) (v2 : Int32) (M : mm_M) (o : mm_E) : Prop := ∀ z1 z3 z4 : Option Value, mm_Runs L xs d 277 (158, [some (.ref 84), z1, some (.int v2), z3, z4], [], M) o
def mp_277_194 (L : Nat) (xs : Nat → Int32) (d : Nat) (M : mm_M) (o : mm_E) : Prop := ∀ z0 z1 z2 z3 z4 : Option Value, mm_Runs L xs d 277 (194, [z0, z1, z2, z3, z4], [], M) o
noncomputable def mf_277_b158 (v2 : Int32) (M : mm_M) : mm_O ((Int32) ⊕ (Unit)) := if v2 < (256 : Int32) then (if mm_in (v2 / (16 : Int32)) 12600 then if (M.1 106 (v2 / (16 : Int32)).toNatClampNeg) = (1 : Int32) then (if mm_in v2 12600 then mm_B (mf_247 (M.1 104 v2.toNatClampNeg) M) (fun _ M1 => some (.inl (.inl (v2 + (1 : Int32))), M1)) else none) else (some (.inl (.inl (v2 + (1 : Int32))), M)) else none) else (some (.inl (.inr ()), M))
noncomputable def mf_277_L158 (s : Int32) (M : mm_M) : mm_O (Unit) := mm_L (fun s M => mf_277_b158 s M) s M
set_option maxRecDepth 8000 in
set_option maxHeartbeats 4000000 in
theorem ms_277_b158 {L : Nat} {xs : Nat → Int32} {d : Nat} (hd : 3 ≤ d) {v2 : Int32} {M : mm_M} {q : (((Int32) ⊕ (Unit)) ⊕ Nat) × mm_M} {o : mm_E} (h : mf_277_b158 v2 M = some q) (hA : mm_A (mm_K2 (fun s M o => mp_277_158 L xs (d) s M o) (fun r M o => mp_277_194 L xs (d) M o)) q o) : mp_277_158 L xs d v2 M o := by
  unfold mf_277_b158 at h
  obtain ⟨d, rfl⟩ := mm_d1 (n := 2) hd
  intro z1 z3 z4
  show mm_Runs L xs (d + 1) 277 (158, [some (.ref 84), z1, some (.int v2), z3, z4], [], M) o
  refine mm_Runs.seq (l := [(158, .iload_n 2, 1), (159, .sipush 256, 3)]) (S2 := (162, [some (.ref 84), z1, some (.int v2), z3, z4], [.int (256 : Int32), .int v2], M)) (by decide +kernel) (hO := mm_own_277) rfl ?_
  refine mm_R_ige (t := 194) rfl rfl rfl (fun hc => ?_) (fun hc => ?_)
  · replace h := mm_ip hc h
    refine mm_Runs.seq (l := [(165, .aload_n 0, 1), (166, .getfield 75, 3), (169, .iload_n 2, 1), (170, .bipush 16, 2), (172, .idiv, 1)]) (S2 := (173, [some (.ref 84), z1, some (.int v2), z3, z4], [.int (v2 / (16 : Int32)), .ref 106], M)) (by decide +kernel) (hO := mm_own_277) rfl ?_
    obtain ⟨hb, h⟩ := mm_gd h
    refine mm_R_iald rfl rfl hb ?_
    refine mm_Runs.seq (l := [(174, .iconst 1, 1)]) (S2 := (175, [some (.ref 84), z1, some (.int v2), z3, z4], [.int (1 : Int32), .int (M.1 106 (v2 / (16 : Int32)).toNatClampNeg)], M)) (by decide +kernel) (hO := mm_own_277) rfl ?_
    refine mm_R_ine (t := 188) rfl rfl rfl (fun hc => ?_) (fun hc => ?_)
    · replace h := mm_ip hc h
      refine mm_Runs.seq (l := [(178, .aload_n 0, 1), (179, .aload_n 0, 1), (180, .getfield 69, 3), (183, .iload_n 2, 1)]) (S2 := (184, [some (.ref 84), z1, some (.int v2), z3, z4], [.int v2, .ref 104, .ref 84], M)) (by decide +kernel) (hO := mm_own_277) rfl ?_
      obtain ⟨hb, h⟩ := mm_gd h
      refine mm_R_iald rfl rfl hb ?_
      refine mm_R_call (v := mm_wv) h hA (k2 := 247) (as := [.ref 84, .int (M.1 104 v2.toNatClampNeg)]) (r := []) rfl (fun _ => rfl) (fun q hq o ho => ms_247 (by omega) hq ho) (fun _ M1 h => ?_)
      show mm_Runs L xs (d + 1) 277 (188, [some (.ref 84), z1, some (.int v2), z3, z4], [], M1) o
      refine mm_Runs.seq (l := [(188, .iinc 2 1, 3), (191, .goto (-33), 3)]) (S2 := (158, [some (.ref 84), (mm_no2 z1), some (.int (v2 + (1 : Int32))), z3, z4], [], M1)) (by decide +kernel) (hO := mm_own_277) rfl ?_
      cases h
      exact (show mp_277_158 L xs (d + 1) (v2 + (1 : Int32)) M1 o from hA) ((mm_no2 z1)) z3 z4
    · replace h := mm_iq hc h
      refine mm_Runs.seq (l := [(188, .iinc 2 1, 3), (191, .goto (-33), 3)]) (S2 := (158, [some (.ref 84), (mm_no2 z1), some (.int (v2 + (1 : Int32))), z3, z4], [], M)) (by decide +kernel) (hO := mm_own_277) rfl ?_
      cases h
      exact (show mp_277_158 L xs (d + 1) (v2 + (1 : Int32)) M o from hA) ((mm_no2 z1)) z3 z4
  · replace h := mm_iq hc h
    cases h
    exact (show mp_277_194 L xs (d + 1) M o from hA) (some (.ref 84)) z1 (some (.int v2)) z3 z4
theorem ms_277_L158 {L : Nat} {xs : Nat → Int32} {d : Nat} (hd : 3 ≤ d) {v2 : Int32} {β : Type} {K : β → mm_M → mm_E → Prop} {F : (Unit) → mm_M → mm_O β} {M : mm_M} {q : (β ⊕ Nat) × mm_M} {o : mm_E} (h : mm_B (mf_277_L158 v2 M) F = some q) (hA : mm_A K q o) (hx : ∀ (r : (Unit)) (M2 : mm_M), F r M2 = some q → (fun r M o => mp_277_194 L xs (d) M o) r M2 o) : mp_277_158 L xs d v2 M o := mm_R_loop (s := v2) (M := M) (P := (fun s M o => mp_277_158 L xs (d) s M o)) (X := (fun r M o => mp_277_194 L xs (d) M o)) h hA (fun s M q hq hA => ms_277_b158 hd hq hA) hx
noncomputable def mf_277 (v1 : Int32) (M : mm_M) : mm_O Unit := mm_B (mf_277_L2 v1 (0 : Int32) M) (fun r2 M1 => mm_B (mf_277_L24 v1 (0 : Int32) M1) (fun r7 M6 => mm_B (mf_277_L54 (0 : Int32) (mm_pi M6 84 20 (0 : Int32))) (fun r13 M12 => mm_B (mf_277_L99 (0 : Int32) M12) (fun r19 M18 => mm_B (mf_277_L158 (0 : Int32) M18) (fun r25 M24 => some (.inl (), M24))))))
set_option maxRecDepth 8000 in
set_option maxHeartbeats 4000000 in
theorem ms_277 {L : Nat} {xs : Nat → Int32} {d : Nat} (hd : 3 ≤ d) {v1 : Int32} {M : mm_M} {q : (Unit ⊕ Nat) × mm_M} {o : mm_E} (h : mf_277 v1 M = some q) (hA : mm_A (mm_Kr mm_wv) q o) : mm_Runs L xs d 277 (0, mm_ent (mm_ml 277) [.ref 84, .int v1], [], M) o := by
  unfold mf_277 at h
  obtain ⟨d, rfl⟩ := mm_d1 (n := 2) hd
  show mm_Runs L xs (d + 1) 277 (0, [some (.ref 84), some (.int v1), none, none, none], [], M) o
  refine mm_Runs.seq (l := [(0, .iconst 0, 1), (1, .istore_n 2, 1)]) (S2 := (2, [some (.ref 84), some (.int v1), some (.int (0 : Int32)), none, none], [], M)) (by decide +kernel) (hO := mm_own_277) rfl ?_
  have hp : mp_277_2 L xs (d + 1) v1 (0 : Int32) M o := by
    refine ms_277_L2 hd h hA (fun r2 M1 h => ?_)
    intro y3 y4 y5
    show mm_Runs L xs (d + 1) 277 (22, [some (.ref 84), some (.int v1), y3, y4, y5], [], M1) o
    refine mm_Runs.seq (l := [(22, .iconst 0, 1), (23, .istore_n 2, 1)]) (S2 := (24, [some (.ref 84), some (.int v1), some (.int (0 : Int32)), y4, y5], [], M1)) (by decide +kernel) (hO := mm_own_277) rfl ?_
    have hp : mp_277_24 L xs (d + 1) v1 (0 : Int32) M1 o := by
      refine ms_277_L24 hd h hA (fun r7 M6 h => ?_)
      intro y8 y9 y10 y11
      show mm_Runs L xs (d + 1) 277 (47, [some (.ref 84), y8, y9, y10, y11], [], M6) o
      refine mm_Runs.seq (l := [(47, .aload_n 0, 1), (48, .iconst 0, 1), (49, .putfield 215, 3), (52, .iconst 0, 1), (53, .istore_n 2, 1)]) (S2 := (54, [some (.ref 84), (mm_no2 y8), some (.int (0 : Int32)), y10, y11], [], (mm_pi M6 84 20 (0 : Int32)))) (by decide +kernel) (hO := mm_own_277) rfl ?_
      have hp : mp_277_54 L xs (d + 1) (0 : Int32) (mm_pi M6 84 20 (0 : Int32)) o := by
        refine ms_277_L54 hd h hA (fun r13 M12 h => ?_)
        intro y14 y15 y16 y17
        show mm_Runs L xs (d + 1) 277 (97, [some (.ref 84), y14, y15, y16, y17], [], M12) o
        refine mm_Runs.seq (l := [(97, .iconst 0, 1), (98, .istore_n 2, 1)]) (S2 := (99, [some (.ref 84), (mm_no2 y14), some (.int (0 : Int32)), y16, y17], [], M12)) (by decide +kernel) (hO := mm_own_277) rfl ?_
        have hp : mp_277_99 L xs (d + 1) (0 : Int32) M12 o := by
          refine ms_277_L99 hd h hA (fun r19 M18 h => ?_)
          intro y20 y21 y22 y23
          show mm_Runs L xs (d + 1) 277 (156, [some (.ref 84), y20, y21, y22, y23], [], M18) o
          refine mm_Runs.seq (l := [(156, .iconst 0, 1), (157, .istore_n 2, 1)]) (S2 := (158, [some (.ref 84), (mm_no2 y20), some (.int (0 : Int32)), y22, y23], [], M18)) (by decide +kernel) (hO := mm_own_277) rfl ?_
          have hp : mp_277_158 L xs (d + 1) (0 : Int32) M18 o := by
            refine ms_277_L158 hd h hA (fun r25 M24 h => ?_)
            intro y26 y27 y28 y29 y30
            show mm_Runs L xs (d + 1) 277 (194, [y26, y27, y28, y29, y30], [], M24) o
            cases h
            exact mm_R_retv rfl rfl hA
          exact hp ((mm_no2 y20)) y22 y23
        exact hp ((mm_no2 y14)) y16 y17
      exact hp ((mm_no2 y8)) y10 y11
    exact hp y4 y5
  exact hp none none
-- 278: PlainPacksModel.letter(I)V (depth 0)
theorem mm_own_278 : mm_own 278 = 12 := rfl
noncomputable def mf_278 (v1 : Int32) (M : mm_M) : mm_O Unit := if mm_in (M.1 84 52) 12600 then some (.inl (), (mm_pi (mm_pi M 104 (M.1 84 52).toNatClampNeg v1) 84 52 ((M.1 84 52) + (1 : Int32)))) else none
set_option maxRecDepth 8000 in
set_option maxHeartbeats 4000000 in
theorem ms_278 {L : Nat} {xs : Nat → Int32} {d : Nat} (hd : 0 ≤ d) {v1 : Int32} {M : mm_M} {q : (Unit ⊕ Nat) × mm_M} {o : mm_E} (h : mf_278 v1 M = some q) (hA : mm_A (mm_Kr mm_wv) q o) : mm_Runs L xs d 278 (0, mm_ent (mm_ml 278) [.ref 84, .int v1], [], M) o := by
  unfold mf_278 at h
  show mm_Runs L xs (d) 278 (0, [some (.ref 84), some (.int v1)], [], M) o
  refine mm_Runs.seq (l := [(0, .aload_n 0, 1), (1, .getfield 69, 3), (4, .aload_n 0, 1), (5, .getfield 510, 3), (8, .iload_n 1, 1)]) (S2 := (9, [some (.ref 84), some (.int v1)], [.int v1, .int (M.1 84 52), .ref 104], M)) (by decide +kernel) (hO := mm_own_278) rfl ?_
  obtain ⟨hb, h⟩ := mm_gd h
  refine mm_R_iast rfl rfl hb ?_
  refine mm_Runs.seq (l := [(10, .aload_n 0, 1), (11, .dup, 1), (12, .getfield 510, 3), (15, .iconst 1, 1), (16, .iadd, 1), (17, .putfield 510, 3)]) (S2 := (20, [some (.ref 84), some (.int v1)], [], (mm_pi (mm_pi M 104 (M.1 84 52).toNatClampNeg v1) 84 52 ((M.1 84 52) + (1 : Int32))))) (by decide +kernel) (hO := mm_own_278) rfl ?_
  cases h
  exact mm_R_retv rfl rfl hA
-- 279: PlainPacksModel.runLetters(I)V (depth 1)
theorem mm_own_279 : mm_own 279 = 12 := rfl
def mp_279_2 (L : Nat) (xs : Nat → Int32) (d : Nat) (v2 : Int32) (M : mm_M) (o : mm_E) : Prop := ∀ z1 : Option Value, mm_Runs L xs d 279 (2, [some (.ref 84), z1, some (.int v2)], [], M) o
def mp_279_24 (L : Nat) (xs : Nat → Int32) (d : Nat) (M : mm_M) (o : mm_E) : Prop := ∀ z0 z1 z2 : Option Value, mm_Runs L xs d 279 (24, [z0, z1, z2], [], M) o
noncomputable def mf_279_b2 (v2 : Int32) (M : mm_M) : mm_O ((Int32) ⊕ (Unit)) := if 0 < v2 then (mm_B (mf_278 ((1 : Int32) - (mm_rem v2 (2 : Int32))) M) (fun _ M1 => some (.inl (.inl ((v2 - (1 : Int32)) / (2 : Int32))), M1))) else (some (.inl (.inr ()), M))
noncomputable def mf_279_L2 (s : Int32) (M : mm_M) : mm_O (Unit) := mm_L (fun s M => mf_279_b2 s M) s M
set_option maxRecDepth 8000 in
set_option maxHeartbeats 4000000 in
theorem ms_279_b2 {L : Nat} {xs : Nat → Int32} {d : Nat} (hd : 1 ≤ d) {v2 : Int32} {M : mm_M} {q : (((Int32) ⊕ (Unit)) ⊕ Nat) × mm_M} {o : mm_E} (h : mf_279_b2 v2 M = some q) (hA : mm_A (mm_K2 (fun s M o => mp_279_2 L xs (d) s M o) (fun r M o => mp_279_24 L xs (d) M o)) q o) : mp_279_2 L xs d v2 M o := by
  unfold mf_279_b2 at h
  obtain ⟨d, rfl⟩ := mm_d1 (n := 0) hd
  intro z1
  show mm_Runs L xs (d + 1) 279 (2, [some (.ref 84), z1, some (.int v2)], [], M) o
  refine mm_Runs.seq (l := [(2, .iload_n 2, 1)]) (S2 := (3, [some (.ref 84), z1, some (.int v2)], [.int v2], M)) (by decide +kernel) (hO := mm_own_279) rfl ?_
  refine mm_R_zle (t := 24) rfl rfl rfl (fun hc => ?_) (fun hc => ?_)
  · replace h := mm_ip hc h
    refine mm_Runs.seq (l := [(6, .aload_n 0, 1), (7, .iconst 1, 1), (8, .iload_n 2, 1), (9, .iconst 2, 1), (10, .irem, 1), (11, .isub, 1)]) (S2 := (12, [some (.ref 84), z1, some (.int v2)], [.int ((1 : Int32) - (mm_rem v2 (2 : Int32))), .ref 84], M)) (by decide +kernel) (hO := mm_own_279) rfl ?_
    refine mm_R_call (v := mm_wv) h hA (k2 := 278) (as := [.ref 84, .int ((1 : Int32) - (mm_rem v2 (2 : Int32)))]) (r := []) rfl (fun _ => rfl) (fun q hq o ho => ms_278 (by omega) hq ho) (fun _ M1 h => ?_)
    show mm_Runs L xs (d + 1) 279 (15, [some (.ref 84), z1, some (.int v2)], [], M1) o
    refine mm_Runs.seq (l := [(15, .iload_n 2, 1), (16, .iconst 1, 1), (17, .isub, 1), (18, .iconst 2, 1), (19, .idiv, 1), (20, .istore_n 2, 1), (21, .goto (-19), 3)]) (S2 := (2, [some (.ref 84), (mm_no2 z1), some (.int ((v2 - (1 : Int32)) / (2 : Int32)))], [], M1)) (by decide +kernel) (hO := mm_own_279) rfl ?_
    cases h
    exact (show mp_279_2 L xs (d + 1) ((v2 - (1 : Int32)) / (2 : Int32)) M1 o from hA) ((mm_no2 z1))
  · replace h := mm_iq hc h
    cases h
    exact (show mp_279_24 L xs (d + 1) M o from hA) (some (.ref 84)) z1 (some (.int v2))
theorem ms_279_L2 {L : Nat} {xs : Nat → Int32} {d : Nat} (hd : 1 ≤ d) {v2 : Int32} {β : Type} {K : β → mm_M → mm_E → Prop} {F : (Unit) → mm_M → mm_O β} {M : mm_M} {q : (β ⊕ Nat) × mm_M} {o : mm_E} (h : mm_B (mf_279_L2 v2 M) F = some q) (hA : mm_A K q o) (hx : ∀ (r : (Unit)) (M2 : mm_M), F r M2 = some q → (fun r M o => mp_279_24 L xs (d) M o) r M2 o) : mp_279_2 L xs d v2 M o := mm_R_loop (s := v2) (M := M) (P := (fun s M o => mp_279_2 L xs (d) s M o)) (X := (fun r M o => mp_279_24 L xs (d) M o)) h hA (fun s M q hq hA => ms_279_b2 hd hq hA) hx
noncomputable def mf_279 (v1 : Int32) (M : mm_M) : mm_O Unit := mm_B (mf_279_L2 v1 M) (fun r2 M1 => some (.inl (), M1))
set_option maxRecDepth 8000 in
set_option maxHeartbeats 4000000 in
theorem ms_279 {L : Nat} {xs : Nat → Int32} {d : Nat} (hd : 1 ≤ d) {v1 : Int32} {M : mm_M} {q : (Unit ⊕ Nat) × mm_M} {o : mm_E} (h : mf_279 v1 M = some q) (hA : mm_A (mm_Kr mm_wv) q o) : mm_Runs L xs d 279 (0, mm_ent (mm_ml 279) [.ref 84, .int v1], [], M) o := by
  unfold mf_279 at h
  obtain ⟨d, rfl⟩ := mm_d1 (n := 0) hd
  show mm_Runs L xs (d + 1) 279 (0, [some (.ref 84), some (.int v1), none], [], M) o
  refine mm_Runs.seq (l := [(0, .iload_n 1, 1), (1, .istore_n 2, 1)]) (S2 := (2, [some (.ref 84), some (.int v1), some (.int v1)], [], M)) (by decide +kernel) (hO := mm_own_279) rfl ?_
  have hp : mp_279_2 L xs (d + 1) v1 M o := by
    refine ms_279_L2 hd h hA (fun r2 M1 h => ?_)
    intro y3 y4 y5
    show mm_Runs L xs (d + 1) 279 (24, [y3, y4, y5], [], M1) o
    cases h
    exact mm_R_retv rfl rfl hA
  exact hp (some (.int v1))
-- 280: PlainPacksModel.writeSorted(I)V (depth 4)
theorem mm_own_280 : mm_own 280 = 12 := rfl
def mp_280_17 (L : Nat) (xs : Nat → Int32) (d : Nat) (v1 : Int32) (v2 : Int32) (v3 : Int32) (v4 : Int32) (M : mm_M) (o : mm_E) : Prop := ∀ z5 z6 z7 : Option Value, mm_Runs L xs d 280 (17, [some (.ref 84), some (.int v1), some (.int v2), some (.int v3), some (.int v4), z5, z6, z7], [], M) o
def mp_280_135 (L : Nat) (xs : Nat → Int32) (d : Nat) (v2 : Int32) (v3 : Int32) (M : mm_M) (o : mm_E) : Prop := ∀ z1 z4 z5 z6 z7 : Option Value, mm_Runs L xs d 280 (135, [some (.ref 84), z1, some (.int v2), some (.int v3), z4, z5, z6, z7], [], M) o
def mp_280_46 (L : Nat) (xs : Nat → Int32) (d : Nat) (v1 : Int32) (v2 : Int32) (v3 : Int32) (v4 : Int32) (v5 : Int32) (v6 : Int32) (M : mm_M) (o : mm_E) : Prop := ∀ z7 : Option Value, mm_Runs L xs d 280 (46, [some (.ref 84), some (.int v1), some (.int v2), some (.int v3), some (.int v4), some (.int v5), some (.int v6), z7], [], M) o
def mp_280_64 (L : Nat) (xs : Nat → Int32) (d : Nat) (v1 : Int32) (v2 : Int32) (v3 : Int32) (v4 : Int32) (v5 : Int32) (v6 : Int32) (M : mm_M) (o : mm_E) : Prop := ∀ z7 : Option Value, mm_Runs L xs d 280 (64, [some (.ref 84), some (.int v1), some (.int v2), some (.int v3), some (.int v4), some (.int v5), some (.int v6), z7], [], M) o
noncomputable def mf_280_b46 (v1 : Int32) (v2 : Int32) (v3 : Int32) (v4 : Int32) (v5 : Int32) (v6 : Int32) (M : mm_M) : mm_O ((Int32) ⊕ (Int32)) := if mm_in v6 256 then if (M.1 94 v6.toNatClampNeg) = v5 then (some (.inl (.inr v6), M)) else (some (.inl (.inl (v6 + (1 : Int32))), M)) else none
noncomputable def mf_280_L46 (v1 : Int32) (v2 : Int32) (v3 : Int32) (v4 : Int32) (v5 : Int32) (s : Int32) (M : mm_M) : mm_O (Int32) := mm_L (fun s M => mf_280_b46 v1 v2 v3 v4 v5 s M) s M
set_option maxRecDepth 8000 in
set_option maxHeartbeats 4000000 in
theorem ms_280_b46 {L : Nat} {xs : Nat → Int32} {d : Nat} (hd : 4 ≤ d) {v1 : Int32} {v2 : Int32} {v3 : Int32} {v4 : Int32} {v5 : Int32} {v6 : Int32} {M : mm_M} {q : (((Int32) ⊕ (Int32)) ⊕ Nat) × mm_M} {o : mm_E} (h : mf_280_b46 v1 v2 v3 v4 v5 v6 M = some q) (hA : mm_A (mm_K2 (fun s M o => mp_280_46 L xs (d) v1 v2 v3 v4 v5 s M o) (fun r M o => mp_280_64 L xs (d) v1 v2 v3 v4 v5 r M o)) q o) : mp_280_46 L xs d v1 v2 v3 v4 v5 v6 M o := by
  unfold mf_280_b46 at h
  obtain ⟨d, rfl⟩ := mm_d1 (n := 3) hd
  intro z7
  show mm_Runs L xs (d + 1) 280 (46, [some (.ref 84), some (.int v1), some (.int v2), some (.int v3), some (.int v4), some (.int v5), some (.int v6), z7], [], M) o
  refine mm_Runs.seq (l := [(46, .aload_n 0, 1), (47, .getfield 38, 3), (50, .iload 6, 2)]) (S2 := (52, [some (.ref 84), some (.int v1), some (.int v2), some (.int v3), some (.int v4), some (.int v5), some (.int v6), z7], [.int v6, .ref 94], M)) (by decide +kernel) (hO := mm_own_280) rfl ?_
  obtain ⟨hb, h⟩ := mm_gd h
  refine mm_R_iald rfl rfl hb ?_
  refine mm_Runs.seq (l := [(53, .iload 5, 2)]) (S2 := (55, [some (.ref 84), some (.int v1), some (.int v2), some (.int v3), some (.int v4), some (.int v5), some (.int v6), z7], [.int v5, .int (M.1 94 v6.toNatClampNeg)], M)) (by decide +kernel) (hO := mm_own_280) rfl ?_
  refine mm_R_ieq (t := 64) rfl rfl rfl (fun hc => ?_) (fun hc => ?_)
  · replace h := mm_ip hc h
    cases h
    exact (show mp_280_64 L xs (d + 1) v1 v2 v3 v4 v5 v6 M o from hA) z7
  · replace h := mm_iq hc h
    refine mm_Runs.seq (l := [(58, .iinc 6 1, 3), (61, .goto (-15), 3)]) (S2 := (46, [some (.ref 84), some (.int v1), some (.int v2), some (.int v3), some (.int v4), some (.int v5), some (.int (v6 + (1 : Int32))), z7], [], M)) (by decide +kernel) (hO := mm_own_280) rfl ?_
    cases h
    exact (show mp_280_46 L xs (d + 1) v1 v2 v3 v4 v5 (v6 + (1 : Int32)) M o from hA) z7
theorem ms_280_L46 {L : Nat} {xs : Nat → Int32} {d : Nat} (hd : 4 ≤ d) {v1 : Int32} {v2 : Int32} {v3 : Int32} {v4 : Int32} {v5 : Int32} {v6 : Int32} {β : Type} {K : β → mm_M → mm_E → Prop} {F : (Int32) → mm_M → mm_O β} {M : mm_M} {q : (β ⊕ Nat) × mm_M} {o : mm_E} (h : mm_B (mf_280_L46 v1 v2 v3 v4 v5 v6 M) F = some q) (hA : mm_A K q o) (hx : ∀ (r : (Int32)) (M2 : mm_M), F r M2 = some q → (fun r M o => mp_280_64 L xs (d) v1 v2 v3 v4 v5 r M o) r M2 o) : mp_280_46 L xs d v1 v2 v3 v4 v5 v6 M o := mm_R_loop (s := v6) (M := M) (P := (fun s M o => mp_280_46 L xs (d) v1 v2 v3 v4 v5 s M o)) (X := (fun r M o => mp_280_64 L xs (d) v1 v2 v3 v4 v5 r M o)) h hA (fun s M q hq hA => ms_280_b46 hd hq hA) hx
def mp_280_94 (L : Nat) (xs : Nat → Int32) (d : Nat) (v1 : Int32) (v2 : Int32) (v3 : Int32) (v4 : Int32) (v5 : Int32) (v7 : Int32) (M : mm_M) (o : mm_E) : Prop := ∀ z6 : Option Value, mm_Runs L xs d 280 (94, [some (.ref 84), some (.int v1), some (.int v2), some (.int v3), some (.int v4), some (.int v5), z6, some (.int v7)], [], M) o
def mp_280_121 (L : Nat) (xs : Nat → Int32) (d : Nat) (v1 : Int32) (v2 : Int32) (v3 : Int32) (v4 : Int32) (v5 : Int32) (M : mm_M) (o : mm_E) : Prop := ∀ z6 z7 : Option Value, mm_Runs L xs d 280 (121, [some (.ref 84), some (.int v1), some (.int v2), some (.int v3), some (.int v4), some (.int v5), z6, z7], [], M) o
noncomputable def mf_280_b94 (v1 : Int32) (v2 : Int32) (v3 : Int32) (v4 : Int32) (v5 : Int32) (v7 : Int32) (M : mm_M) : mm_O ((Int32) ⊕ (Unit)) := if 0 < v7 then (if mm_in (v7 - (1 : Int32)) 256 then if mm_in v7 256 then some (.inl (.inl (v7 + (-1 : Int32))), (mm_pi M 94 v7.toNatClampNeg (M.1 94 (v7 - (1 : Int32)).toNatClampNeg))) else none else none) else (some (.inl (.inr ()), M))
noncomputable def mf_280_L94 (v1 : Int32) (v2 : Int32) (v3 : Int32) (v4 : Int32) (v5 : Int32) (s : Int32) (M : mm_M) : mm_O (Unit) := mm_L (fun s M => mf_280_b94 v1 v2 v3 v4 v5 s M) s M
set_option maxRecDepth 8000 in
set_option maxHeartbeats 4000000 in
theorem ms_280_b94 {L : Nat} {xs : Nat → Int32} {d : Nat} (hd : 4 ≤ d) {v1 : Int32} {v2 : Int32} {v3 : Int32} {v4 : Int32} {v5 : Int32} {v7 : Int32} {M : mm_M} {q : (((Int32) ⊕ (Unit)) ⊕ Nat) × mm_M} {o : mm_E} (h : mf_280_b94 v1 v2 v3 v4 v5 v7 M = some q) (hA : mm_A (mm_K2 (fun s M o => mp_280_94 L xs (d) v1 v2 v3 v4 v5 s M o) (fun r M o => mp_280_121 L xs (d) v1 v2 v3 v4 v5 M o)) q o) : mp_280_94 L xs d v1 v2 v3 v4 v5 v7 M o := by
  unfold mf_280_b94 at h
  obtain ⟨d, rfl⟩ := mm_d1 (n := 3) hd
  intro z6
  show mm_Runs L xs (d + 1) 280 (94, [some (.ref 84), some (.int v1), some (.int v2), some (.int v3), some (.int v4), some (.int v5), z6, some (.int v7)], [], M) o
  refine mm_Runs.seq (l := [(94, .iload 7, 2)]) (S2 := (96, [some (.ref 84), some (.int v1), some (.int v2), some (.int v3), some (.int v4), some (.int v5), z6, some (.int v7)], [.int v7], M)) (by decide +kernel) (hO := mm_own_280) rfl ?_
  refine mm_R_zle (t := 121) rfl rfl rfl (fun hc => ?_) (fun hc => ?_)
  · replace h := mm_ip hc h
    refine mm_Runs.seq (l := [(99, .aload_n 0, 1), (100, .getfield 38, 3), (103, .iload 7, 2), (105, .aload_n 0, 1), (106, .getfield 38, 3), (109, .iload 7, 2), (111, .iconst 1, 1), (112, .isub, 1)]) (S2 := (113, [some (.ref 84), some (.int v1), some (.int v2), some (.int v3), some (.int v4), some (.int v5), z6, some (.int v7)], [.int (v7 - (1 : Int32)), .ref 94, .int v7, .ref 94], M)) (by decide +kernel) (hO := mm_own_280) rfl ?_
    obtain ⟨hb, h⟩ := mm_gd h
    refine mm_R_iald rfl rfl hb ?_
    obtain ⟨hb, h⟩ := mm_gd h
    refine mm_R_iast rfl rfl hb ?_
    refine mm_Runs.seq (l := [(115, .iinc 7 (-1), 3), (118, .goto (-24), 3)]) (S2 := (94, [some (.ref 84), some (.int v1), some (.int v2), some (.int v3), some (.int v4), some (.int v5), (mm_no2 z6), some (.int (v7 + (-1 : Int32)))], [], (mm_pi M 94 v7.toNatClampNeg (M.1 94 (v7 - (1 : Int32)).toNatClampNeg)))) (by decide +kernel) (hO := mm_own_280) rfl ?_
    cases h
    exact (show mp_280_94 L xs (d + 1) v1 v2 v3 v4 v5 (v7 + (-1 : Int32)) (mm_pi M 94 v7.toNatClampNeg (M.1 94 (v7 - (1 : Int32)).toNatClampNeg)) o from hA) ((mm_no2 z6))
  · replace h := mm_iq hc h
    cases h
    exact (show mp_280_121 L xs (d + 1) v1 v2 v3 v4 v5 M o from hA) z6 (some (.int v7))
theorem ms_280_L94 {L : Nat} {xs : Nat → Int32} {d : Nat} (hd : 4 ≤ d) {v1 : Int32} {v2 : Int32} {v3 : Int32} {v4 : Int32} {v5 : Int32} {v7 : Int32} {β : Type} {K : β → mm_M → mm_E → Prop} {F : (Unit) → mm_M → mm_O β} {M : mm_M} {q : (β ⊕ Nat) × mm_M} {o : mm_E} (h : mm_B (mf_280_L94 v1 v2 v3 v4 v5 v7 M) F = some q) (hA : mm_A K q o) (hx : ∀ (r : (Unit)) (M2 : mm_M), F r M2 = some q → (fun r M o => mp_280_121 L xs (d) v1 v2 v3 v4 v5 M o) r M2 o) : mp_280_94 L xs d v1 v2 v3 v4 v5 v7 M o := mm_R_loop (s := v7) (M := M) (P := (fun s M o => mp_280_94 L xs (d) v1 v2 v3 v4 v5 s M o)) (X := (fun r M o => mp_280_121 L xs (d) v1 v2 v3 v4 v5 M o)) h hA (fun s M q hq hA => ms_280_b94 hd hq hA) hx
noncomputable def mf_280_j121 (v1 : Int32) (v2 : Int32) (v3 : Int32) (v4 : Int32) (v5 : Int32) (M : mm_M) : mm_O ((Int32 × Int32) ⊕ (Int32)) := if mm_in (0 : Int32) 256 then some (.inl (.inl (v3, (v4 + (1 : Int32)))), (mm_pi M 94 (0 : Int32).toNatClampNeg v5)) else none
set_option maxRecDepth 8000 in
set_option maxHeartbeats 4000000 in
theorem ms_280_j121 {L : Nat} {xs : Nat → Int32} {d : Nat} (hd : 4 ≤ d) {v1 : Int32} {v2 : Int32} {v3 : Int32} {v4 : Int32} {v5 : Int32} {M : mm_M} {q : (((Int32 × Int32) ⊕ (Int32)) ⊕ Nat) × mm_M} {o : mm_E} (h : mf_280_j121 v1 v2 v3 v4 v5 M = some q) (hA : mm_A (mm_K2 (fun s M o => mp_280_17 L xs (d) v1 v2 s.1 s.2 M o) (fun r M o => mp_280_135 L xs (d) v2 r M o)) q o) : mp_280_121 L xs d v1 v2 v3 v4 v5 M o := by
  unfold mf_280_j121 at h
  obtain ⟨d, rfl⟩ := mm_d1 (n := 3) hd
  intro z6 z7
  show mm_Runs L xs (d + 1) 280 (121, [some (.ref 84), some (.int v1), some (.int v2), some (.int v3), some (.int v4), some (.int v5), z6, z7], [], M) o
  refine mm_Runs.seq (l := [(121, .aload_n 0, 1), (122, .getfield 38, 3), (125, .iconst 0, 1), (126, .iload 5, 2)]) (S2 := (128, [some (.ref 84), some (.int v1), some (.int v2), some (.int v3), some (.int v4), some (.int v5), z6, z7], [.int v5, .int (0 : Int32), .ref 94], M)) (by decide +kernel) (hO := mm_own_280) rfl ?_
  obtain ⟨hb, h⟩ := mm_gd h
  refine mm_R_iast rfl rfl hb ?_
  refine mm_Runs.seq (l := [(129, .iinc 4 1, 3), (132, .goto (-115), 3)]) (S2 := (17, [some (.ref 84), some (.int v1), some (.int v2), some (.int v3), some (.int (v4 + (1 : Int32))), some (.int v5), z6, z7], [], (mm_pi M 94 (0 : Int32).toNatClampNeg v5))) (by decide +kernel) (hO := mm_own_280) rfl ?_
  cases h
  exact (show mp_280_17 L xs (d + 1) v1 v2 v3 (v4 + (1 : Int32)) (mm_pi M 94 (0 : Int32).toNatClampNeg v5) o from hA) (some (.int v5)) z6 z7
noncomputable def mf_280_j64 (v1 : Int32) (v2 : Int32) (v3 : Int32) (v4 : Int32) (v5 : Int32) (v6 : Int32) (M : mm_M) : mm_O ((Int32 × Int32) ⊕ (Int32)) := if v6 = 0 then (some (.inl (.inl ((v3 + (1 : Int32)), (v4 + (1 : Int32)))), M)) else (mm_B (mf_279 v3 M) (fun _ M1 => mm_B (mf_278 (v6 + (1 : Int32)) M1) (fun _ M2 => mm_B (mf_280_L94 v1 v2 (0 : Int32) v4 v5 v6 M2) (fun r4 M3 => mf_280_j121 v1 v2 (0 : Int32) v4 v5 M3))))
set_option maxRecDepth 8000 in
set_option maxHeartbeats 4000000 in
theorem ms_280_j64 {L : Nat} {xs : Nat → Int32} {d : Nat} (hd : 4 ≤ d) {v1 : Int32} {v2 : Int32} {v3 : Int32} {v4 : Int32} {v5 : Int32} {v6 : Int32} {M : mm_M} {q : (((Int32 × Int32) ⊕ (Int32)) ⊕ Nat) × mm_M} {o : mm_E} (h : mf_280_j64 v1 v2 v3 v4 v5 v6 M = some q) (hA : mm_A (mm_K2 (fun s M o => mp_280_17 L xs (d) v1 v2 s.1 s.2 M o) (fun r M o => mp_280_135 L xs (d) v2 r M o)) q o) : mp_280_64 L xs d v1 v2 v3 v4 v5 v6 M o := by
  unfold mf_280_j64 at h
  obtain ⟨d, rfl⟩ := mm_d1 (n := 3) hd
  intro z7
  show mm_Runs L xs (d + 1) 280 (64, [some (.ref 84), some (.int v1), some (.int v2), some (.int v3), some (.int v4), some (.int v5), some (.int v6), z7], [], M) o
  refine mm_Runs.seq (l := [(64, .iload 6, 2)]) (S2 := (66, [some (.ref 84), some (.int v1), some (.int v2), some (.int v3), some (.int v4), some (.int v5), some (.int v6), z7], [.int v6], M)) (by decide +kernel) (hO := mm_own_280) rfl ?_
  refine mm_R_zne (t := 75) rfl rfl rfl (fun hc => ?_) (fun hc => ?_)
  · replace h := mm_ip hc h
    refine mm_Runs.seq (l := [(69, .iinc 3 1, 3), (72, .goto 57, 3), (129, .iinc 4 1, 3), (132, .goto (-115), 3)]) (S2 := (17, [some (.ref 84), some (.int v1), some (.int v2), some (.int (v3 + (1 : Int32))), some (.int (v4 + (1 : Int32))), some (.int v5), some (.int v6), z7], [], M)) (by decide +kernel) (hO := mm_own_280) rfl ?_
    cases h
    exact (show mp_280_17 L xs (d + 1) v1 v2 (v3 + (1 : Int32)) (v4 + (1 : Int32)) M o from hA) (some (.int v5)) (some (.int v6)) z7
  · replace h := mm_iq hc h
    refine mm_Runs.seq (l := [(75, .aload_n 0, 1), (76, .iload_n 3, 1)]) (S2 := (77, [some (.ref 84), some (.int v1), some (.int v2), some (.int v3), some (.int v4), some (.int v5), some (.int v6), z7], [.int v3, .ref 84], M)) (by decide +kernel) (hO := mm_own_280) rfl ?_
    refine mm_R_call (v := mm_wv) h hA (k2 := 279) (as := [.ref 84, .int v3]) (r := []) rfl (fun _ => rfl) (fun q hq o ho => ms_279 (by omega) hq ho) (fun _ M1 h => ?_)
    show mm_Runs L xs (d + 1) 280 (80, [some (.ref 84), some (.int v1), some (.int v2), some (.int v3), some (.int v4), some (.int v5), some (.int v6), z7], [], M1) o
    refine mm_Runs.seq (l := [(80, .iconst 0, 1), (81, .istore_n 3, 1), (82, .aload_n 0, 1), (83, .iload 6, 2), (85, .iconst 1, 1), (86, .iadd, 1)]) (S2 := (87, [some (.ref 84), some (.int v1), some (.int v2), some (.int (0 : Int32)), some (.int v4), some (.int v5), some (.int v6), z7], [.int (v6 + (1 : Int32)), .ref 84], M1)) (by decide +kernel) (hO := mm_own_280) rfl ?_
    refine mm_R_call (v := mm_wv) h hA (k2 := 278) (as := [.ref 84, .int (v6 + (1 : Int32))]) (r := []) rfl (fun _ => rfl) (fun q hq o ho => ms_278 (by omega) hq ho) (fun _ M2 h => ?_)
    show mm_Runs L xs (d + 1) 280 (90, [some (.ref 84), some (.int v1), some (.int v2), some (.int (0 : Int32)), some (.int v4), some (.int v5), some (.int v6), z7], [], M2) o
    refine mm_Runs.seq (l := [(90, .iload 6, 2), (92, .istore 7, 2)]) (S2 := (94, [some (.ref 84), some (.int v1), some (.int v2), some (.int (0 : Int32)), some (.int v4), some (.int v5), some (.int v6), some (.int v6)], [], M2)) (by decide +kernel) (hO := mm_own_280) rfl ?_
    have hp : mp_280_94 L xs (d + 1) v1 v2 (0 : Int32) v4 v5 v6 M2 o := by
      refine ms_280_L94 hd h hA (fun r4 M3 h => ?_)
      intro y5 y6
      show mm_Runs L xs (d + 1) 280 (121, [some (.ref 84), some (.int v1), some (.int v2), some (.int (0 : Int32)), some (.int v4), some (.int v5), y5, y6], [], M3) o
      exact (ms_280_j121 hd h hA : mp_280_121 L xs (d + 1) v1 v2 (0 : Int32) v4 v5 M3 o) y5 y6
    exact hp (some (.int v6))
noncomputable def mf_280_b17 (v1 : Int32) (v2 : Int32) (v3 : Int32) (v4 : Int32) (M : mm_M) : mm_O ((Int32 × Int32) ⊕ (Int32)) := if v4 < v1 then (if mm_in v4 12600 then if ¬ v1 = 0 then if mm_in (mm_rem (((M.1 105 v4.toNatClampNeg) + v1) - (1 : Int32)) v1) 12600 then mm_B (mf_280_L46 v1 v2 v3 v4 (M.1 102 (mm_rem (((M.1 105 v4.toNatClampNeg) + v1) - (1 : Int32)) v1).toNatClampNeg) (0 : Int32) M) (fun r2 M1 => mf_280_j64 v1 v2 v3 v4 (M.1 102 (mm_rem (((M.1 105 v4.toNatClampNeg) + v1) - (1 : Int32)) v1).toNatClampNeg) r2 M1) else none else none else none) else (some (.inl (.inr v3), M))
noncomputable def mf_280_L17 (v1 : Int32) (v2 : Int32) (s : Int32 × Int32) (M : mm_M) : mm_O (Int32) := mm_L (fun s M => mf_280_b17 v1 v2 s.1 s.2 M) s M
set_option maxRecDepth 8000 in
set_option maxHeartbeats 4000000 in
theorem ms_280_b17 {L : Nat} {xs : Nat → Int32} {d : Nat} (hd : 4 ≤ d) {v1 : Int32} {v2 : Int32} {v3 : Int32} {v4 : Int32} {M : mm_M} {q : (((Int32 × Int32) ⊕ (Int32)) ⊕ Nat) × mm_M} {o : mm_E} (h : mf_280_b17 v1 v2 v3 v4 M = some q) (hA : mm_A (mm_K2 (fun s M o => mp_280_17 L xs (d) v1 v2 s.1 s.2 M o) (fun r M o => mp_280_135 L xs (d) v2 r M o)) q o) : mp_280_17 L xs d v1 v2 v3 v4 M o := by
  unfold mf_280_b17 at h
  obtain ⟨d, rfl⟩ := mm_d1 (n := 3) hd
  intro z5 z6 z7
  show mm_Runs L xs (d + 1) 280 (17, [some (.ref 84), some (.int v1), some (.int v2), some (.int v3), some (.int v4), z5, z6, z7], [], M) o
  refine mm_Runs.seq (l := [(17, .iload 4, 2), (19, .iload_n 1, 1)]) (S2 := (20, [some (.ref 84), some (.int v1), some (.int v2), some (.int v3), some (.int v4), z5, z6, z7], [.int v1, .int v4], M)) (by decide +kernel) (hO := mm_own_280) rfl ?_
  refine mm_R_ige (t := 135) rfl rfl rfl (fun hc => ?_) (fun hc => ?_)
  · replace h := mm_ip hc h
    refine mm_Runs.seq (l := [(23, .aload_n 0, 1), (24, .getfield 63, 3), (27, .aload_n 0, 1), (28, .getfield 72, 3), (31, .iload 4, 2)]) (S2 := (33, [some (.ref 84), some (.int v1), some (.int v2), some (.int v3), some (.int v4), z5, z6, z7], [.int v4, .ref 105, .ref 102], M)) (by decide +kernel) (hO := mm_own_280) rfl ?_
    obtain ⟨hb, h⟩ := mm_gd h
    refine mm_R_iald rfl rfl hb ?_
    refine mm_Runs.seq (l := [(34, .iload_n 1, 1), (35, .iadd, 1), (36, .iconst 1, 1), (37, .isub, 1), (38, .iload_n 1, 1)]) (S2 := (39, [some (.ref 84), some (.int v1), some (.int v2), some (.int v3), some (.int v4), z5, z6, z7], [.int v1, .int (((M.1 105 v4.toNatClampNeg) + v1) - (1 : Int32)), .ref 102], M)) (by decide +kernel) (hO := mm_own_280) rfl ?_
    obtain ⟨hb, h⟩ := mm_gd h
    refine mm_R_rem rfl hb ?_
    obtain ⟨hb, h⟩ := mm_gd h
    refine mm_R_iald rfl rfl hb ?_
    refine mm_Runs.seq (l := [(41, .istore 5, 2), (43, .iconst 0, 1), (44, .istore 6, 2)]) (S2 := (46, [some (.ref 84), some (.int v1), some (.int v2), some (.int v3), some (.int v4), some (.int (M.1 102 (mm_rem (((M.1 105 v4.toNatClampNeg) + v1) - (1 : Int32)) v1).toNatClampNeg)), some (.int (0 : Int32)), z7], [], M)) (by decide +kernel) (hO := mm_own_280) rfl ?_
    have hp : mp_280_46 L xs (d + 1) v1 v2 v3 v4 (M.1 102 (mm_rem (((M.1 105 v4.toNatClampNeg) + v1) - (1 : Int32)) v1).toNatClampNeg) (0 : Int32) M o := by
      refine ms_280_L46 hd h hA (fun r2 M1 h => ?_)
      intro y3
      show mm_Runs L xs (d + 1) 280 (64, [some (.ref 84), some (.int v1), some (.int v2), some (.int v3), some (.int v4), some (.int (M.1 102 (mm_rem (((M.1 105 v4.toNatClampNeg) + v1) - (1 : Int32)) v1).toNatClampNeg)), some (.int r2), y3], [], M1) o
      exact (ms_280_j64 hd h hA : mp_280_64 L xs (d + 1) v1 v2 v3 v4 (M.1 102 (mm_rem (((M.1 105 v4.toNatClampNeg) + v1) - (1 : Int32)) v1).toNatClampNeg) r2 M1 o) y3
    exact hp z7
  · replace h := mm_iq hc h
    cases h
    exact (show mp_280_135 L xs (d + 1) v2 v3 M o from hA) (some (.int v1)) (some (.int v4)) z5 z6 z7
theorem ms_280_L17 {L : Nat} {xs : Nat → Int32} {d : Nat} (hd : 4 ≤ d) {v1 : Int32} {v2 : Int32} {v3 : Int32} {v4 : Int32} {β : Type} {K : β → mm_M → mm_E → Prop} {F : (Int32) → mm_M → mm_O β} {M : mm_M} {q : (β ⊕ Nat) × mm_M} {o : mm_E} (h : mm_B (mf_280_L17 v1 v2 (v3, v4) M) F = some q) (hA : mm_A K q o) (hx : ∀ (r : (Int32)) (M2 : mm_M), F r M2 = some q → (fun r M o => mp_280_135 L xs (d) v2 r M o) r M2 o) : mp_280_17 L xs d v1 v2 v3 v4 M o := mm_R_loop (s := (v3, v4)) (M := M) (P := (fun s M o => mp_280_17 L xs (d) v1 v2 s.1 s.2 M o)) (X := (fun r M o => mp_280_135 L xs (d) v2 r M o)) h hA (fun s M q hq hA => ms_280_b17 hd hq hA) hx
def mp_280_150 (L : Nat) (xs : Nat → Int32) (d : Nat) (v2 : Int32) (v4 : Int32) (M : mm_M) (o : mm_E) : Prop := ∀ z1 z3 z5 z6 z7 : Option Value, mm_Runs L xs d 280 (150, [some (.ref 84), z1, some (.int v2), z3, some (.int v4), z5, z6, z7], [], M) o
def mp_280_164 (L : Nat) (xs : Nat → Int32) (d : Nat) (v2 : Int32) (v4 : Int32) (M : mm_M) (o : mm_E) : Prop := ∀ z1 z3 z5 z6 z7 : Option Value, mm_Runs L xs d 280 (164, [some (.ref 84), z1, some (.int v2), z3, some (.int v4), z5, z6, z7], [], M) o
noncomputable def mf_280_b150 (v2 : Int32) (v4 : Int32) (M : mm_M) : mm_O ((Int32) ⊕ (Int32)) := if (mm_shl (1 : Int32) v4) < v2 then (some (.inl (.inl (v4 + (1 : Int32))), M)) else (some (.inl (.inr v4), M))
noncomputable def mf_280_L150 (v2 : Int32) (s : Int32) (M : mm_M) : mm_O (Int32) := mm_L (fun s M => mf_280_b150 v2 s M) s M
set_option maxRecDepth 8000 in
set_option maxHeartbeats 4000000 in
theorem ms_280_b150 {L : Nat} {xs : Nat → Int32} {d : Nat} (hd : 4 ≤ d) {v2 : Int32} {v4 : Int32} {M : mm_M} {q : (((Int32) ⊕ (Int32)) ⊕ Nat) × mm_M} {o : mm_E} (h : mf_280_b150 v2 v4 M = some q) (hA : mm_A (mm_K2 (fun s M o => mp_280_150 L xs (d) v2 s M o) (fun r M o => mp_280_164 L xs (d) v2 r M o)) q o) : mp_280_150 L xs d v2 v4 M o := by
  unfold mf_280_b150 at h
  obtain ⟨d, rfl⟩ := mm_d1 (n := 3) hd
  intro z1 z3 z5 z6 z7
  show mm_Runs L xs (d + 1) 280 (150, [some (.ref 84), z1, some (.int v2), z3, some (.int v4), z5, z6, z7], [], M) o
  refine mm_Runs.seq (l := [(150, .iconst 1, 1), (151, .iload 4, 2), (153, .ishl, 1), (154, .iload_n 2, 1)]) (S2 := (155, [some (.ref 84), z1, some (.int v2), z3, some (.int v4), z5, z6, z7], [.int v2, .int (mm_shl (1 : Int32) v4)], M)) (by decide +kernel) (hO := mm_own_280) rfl ?_
  refine mm_R_ige (t := 164) rfl rfl rfl (fun hc => ?_) (fun hc => ?_)
  · replace h := mm_ip hc h
    refine mm_Runs.seq (l := [(158, .iinc 4 1, 3), (161, .goto (-11), 3)]) (S2 := (150, [some (.ref 84), z1, some (.int v2), (mm_no2 z3), some (.int (v4 + (1 : Int32))), z5, z6, z7], [], M)) (by decide +kernel) (hO := mm_own_280) rfl ?_
    cases h
    exact (show mp_280_150 L xs (d + 1) v2 (v4 + (1 : Int32)) M o from hA) z1 ((mm_no2 z3)) z5 z6 z7
  · replace h := mm_iq hc h
    cases h
    exact (show mp_280_164 L xs (d + 1) v2 v4 M o from hA) z1 z3 z5 z6 z7
theorem ms_280_L150 {L : Nat} {xs : Nat → Int32} {d : Nat} (hd : 4 ≤ d) {v2 : Int32} {v4 : Int32} {β : Type} {K : β → mm_M → mm_E → Prop} {F : (Int32) → mm_M → mm_O β} {M : mm_M} {q : (β ⊕ Nat) × mm_M} {o : mm_E} (h : mm_B (mf_280_L150 v2 v4 M) F = some q) (hA : mm_A K q o) (hx : ∀ (r : (Int32)) (M2 : mm_M), F r M2 = some q → (fun r M o => mp_280_164 L xs (d) v2 r M o) r M2 o) : mp_280_150 L xs d v2 v4 M o := mm_R_loop (s := v4) (M := M) (P := (fun s M o => mp_280_150 L xs (d) v2 s M o)) (X := (fun r M o => mp_280_164 L xs (d) v2 r M o)) h hA (fun s M q hq hA => ms_280_b150 hd hq hA) hx
def mp_280_206 (L : Nat) (xs : Nat → Int32) (d : Nat) (v2 : Int32) (v4 : Int32) (v6 : Int32) (M : mm_M) (o : mm_E) : Prop := ∀ z1 z3 z5 z7 : Option Value, mm_Runs L xs d 280 (206, [some (.ref 84), z1, some (.int v2), z3, some (.int v4), z5, some (.int v6), z7], [], M) o
def mp_280_234 (L : Nat) (xs : Nat → Int32) (d : Nat) (v4 : Int32) (M : mm_M) (o : mm_E) : Prop := ∀ z1 z2 z3 z5 z6 z7 : Option Value, mm_Runs L xs d 280 (234, [some (.ref 84), z1, z2, z3, some (.int v4), z5, z6, z7], [], M) o
noncomputable def mf_280_b206 (v2 : Int32) (v4 : Int32) (v6 : Int32) (M : mm_M) : mm_O ((Int32) ⊕ (Unit)) := if v6 < (2 : Int32) then (mm_B (mf_249 v4.toInt64 (5 : Int32) (1 : Int32) M) (fun _ M1 => mm_B (mf_249 (0 : Int64) v2 (1 : Int32) M1) (fun _ M2 => some (.inl (.inl (v6 + (1 : Int32))), M2)))) else (some (.inl (.inr ()), M))
noncomputable def mf_280_L206 (v2 : Int32) (v4 : Int32) (s : Int32) (M : mm_M) : mm_O (Unit) := mm_L (fun s M => mf_280_b206 v2 v4 s M) s M
set_option maxRecDepth 8000 in
set_option maxHeartbeats 4000000 in
theorem ms_280_b206 {L : Nat} {xs : Nat → Int32} {d : Nat} (hd : 4 ≤ d) {v2 : Int32} {v4 : Int32} {v6 : Int32} {M : mm_M} {q : (((Int32) ⊕ (Unit)) ⊕ Nat) × mm_M} {o : mm_E} (h : mf_280_b206 v2 v4 v6 M = some q) (hA : mm_A (mm_K2 (fun s M o => mp_280_206 L xs (d) v2 v4 s M o) (fun r M o => mp_280_234 L xs (d) v4 M o)) q o) : mp_280_206 L xs d v2 v4 v6 M o := by
  unfold mf_280_b206 at h
  obtain ⟨d, rfl⟩ := mm_d1 (n := 3) hd
  intro z1 z3 z5 z7
  show mm_Runs L xs (d + 1) 280 (206, [some (.ref 84), z1, some (.int v2), z3, some (.int v4), z5, some (.int v6), z7], [], M) o
  refine mm_Runs.seq (l := [(206, .iload 6, 2), (208, .iconst 2, 1)]) (S2 := (209, [some (.ref 84), z1, some (.int v2), z3, some (.int v4), z5, some (.int v6), z7], [.int (2 : Int32), .int v6], M)) (by decide +kernel) (hO := mm_own_280) rfl ?_
  refine mm_R_ige (t := 234) rfl rfl rfl (fun hc => ?_) (fun hc => ?_)
  · replace h := mm_ip hc h
    refine mm_Runs.seq (l := [(212, .aload_n 0, 1), (213, .iload 4, 2), (215, .i2l, 1), (216, .iconst 5, 1), (217, .iconst 1, 1)]) (S2 := (218, [some (.ref 84), z1, some (.int v2), z3, some (.int v4), z5, some (.int v6), z7], [.int (1 : Int32), .int (5 : Int32), .long v4.toInt64, .ref 84], M)) (by decide +kernel) (hO := mm_own_280) rfl ?_
    refine mm_R_call (v := mm_wv) h hA (k2 := 249) (as := [.ref 84, .long v4.toInt64, .int (5 : Int32), .int (1 : Int32)]) (r := []) rfl (fun _ => rfl) (fun q hq o ho => ms_249 (by omega) hq ho) (fun _ M1 h => ?_)
    show mm_Runs L xs (d + 1) 280 (221, [some (.ref 84), z1, some (.int v2), z3, some (.int v4), z5, some (.int v6), z7], [], M1) o
    refine mm_Runs.seq (l := [(221, .aload_n 0, 1), (222, .lconst 0, 1), (223, .iload_n 2, 1), (224, .iconst 1, 1)]) (S2 := (225, [some (.ref 84), z1, some (.int v2), z3, some (.int v4), z5, some (.int v6), z7], [.int (1 : Int32), .int v2, .long (0 : Int64), .ref 84], M1)) (by decide +kernel) (hO := mm_own_280) rfl ?_
    refine mm_R_call (v := mm_wv) h hA (k2 := 249) (as := [.ref 84, .long (0 : Int64), .int v2, .int (1 : Int32)]) (r := []) rfl (fun _ => rfl) (fun q hq o ho => ms_249 (by omega) hq ho) (fun _ M2 h => ?_)
    show mm_Runs L xs (d + 1) 280 (228, [some (.ref 84), z1, some (.int v2), z3, some (.int v4), z5, some (.int v6), z7], [], M2) o
    refine mm_Runs.seq (l := [(228, .iinc 6 1, 3), (231, .goto (-25), 3)]) (S2 := (206, [some (.ref 84), z1, some (.int v2), z3, some (.int v4), (mm_no2 z5), some (.int (v6 + (1 : Int32))), z7], [], M2)) (by decide +kernel) (hO := mm_own_280) rfl ?_
    cases h
    exact (show mp_280_206 L xs (d + 1) v2 v4 (v6 + (1 : Int32)) M2 o from hA) z1 z3 ((mm_no2 z5)) z7
  · replace h := mm_iq hc h
    cases h
    exact (show mp_280_234 L xs (d + 1) v4 M o from hA) z1 (some (.int v2)) z3 z5 (some (.int v6)) z7
theorem ms_280_L206 {L : Nat} {xs : Nat → Int32} {d : Nat} (hd : 4 ≤ d) {v2 : Int32} {v4 : Int32} {v6 : Int32} {β : Type} {K : β → mm_M → mm_E → Prop} {F : (Unit) → mm_M → mm_O β} {M : mm_M} {q : (β ⊕ Nat) × mm_M} {o : mm_E} (h : mm_B (mf_280_L206 v2 v4 v6 M) F = some q) (hA : mm_A K q o) (hx : ∀ (r : (Unit)) (M2 : mm_M), F r M2 = some q → (fun r M o => mp_280_234 L xs (d) v4 M o) r M2 o) : mp_280_206 L xs d v2 v4 v6 M o := mm_R_loop (s := v6) (M := M) (P := (fun s M o => mp_280_206 L xs (d) v2 v4 s M o)) (X := (fun r M o => mp_280_234 L xs (d) v4 M o)) h hA (fun s M q hq hA => ms_280_b206 hd hq hA) hx
def mp_280_237 (L : Nat) (xs : Nat → Int32) (d : Nat) (v4 : Int32) (v6 : Int32) (M : mm_M) (o : mm_E) : Prop := ∀ z1 z2 z3 z5 z7 : Option Value, mm_Runs L xs d 280 (237, [some (.ref 84), z1, z2, z3, some (.int v4), z5, some (.int v6), z7], [], M) o
def mp_280_267 (L : Nat) (xs : Nat → Int32) (d : Nat) (M : mm_M) (o : mm_E) : Prop := ∀ z0 z1 z2 z3 z4 z5 z6 z7 : Option Value, mm_Runs L xs d 280 (267, [z0, z1, z2, z3, z4, z5, z6, z7], [], M) o
noncomputable def mf_280_b237 (v4 : Int32) (v6 : Int32) (M : mm_M) : mm_O ((Int32) ⊕ (Unit)) := if v6 < (M.1 84 52) then (if mm_in v6 12600 then mm_B (mf_249 (M.1 104 v6.toNatClampNeg).toInt64 v4 (1 : Int32) M) (fun _ M1 => some (.inl (.inl (v6 + (1 : Int32))), M1)) else none) else (some (.inl (.inr ()), M))
noncomputable def mf_280_L237 (v4 : Int32) (s : Int32) (M : mm_M) : mm_O (Unit) := mm_L (fun s M => mf_280_b237 v4 s M) s M
set_option maxRecDepth 8000 in
set_option maxHeartbeats 4000000 in
theorem ms_280_b237 {L : Nat} {xs : Nat → Int32} {d : Nat} (hd : 4 ≤ d) {v4 : Int32} {v6 : Int32} {M : mm_M} {q : (((Int32) ⊕ (Unit)) ⊕ Nat) × mm_M} {o : mm_E} (h : mf_280_b237 v4 v6 M = some q) (hA : mm_A (mm_K2 (fun s M o => mp_280_237 L xs (d) v4 s M o) (fun r M o => mp_280_267 L xs (d) M o)) q o) : mp_280_237 L xs d v4 v6 M o := by
  unfold mf_280_b237 at h
  obtain ⟨d, rfl⟩ := mm_d1 (n := 3) hd
  intro z1 z2 z3 z5 z7
  show mm_Runs L xs (d + 1) 280 (237, [some (.ref 84), z1, z2, z3, some (.int v4), z5, some (.int v6), z7], [], M) o
  refine mm_Runs.seq (l := [(237, .iload 6, 2), (239, .aload_n 0, 1), (240, .getfield 510, 3)]) (S2 := (243, [some (.ref 84), z1, z2, z3, some (.int v4), z5, some (.int v6), z7], [.int (M.1 84 52), .int v6], M)) (by decide +kernel) (hO := mm_own_280) rfl ?_
  refine mm_R_ige (t := 267) rfl rfl rfl (fun hc => ?_) (fun hc => ?_)
  · replace h := mm_ip hc h
    refine mm_Runs.seq (l := [(246, .aload_n 0, 1), (247, .aload_n 0, 1), (248, .getfield 69, 3), (251, .iload 6, 2)]) (S2 := (253, [some (.ref 84), z1, z2, z3, some (.int v4), z5, some (.int v6), z7], [.int v6, .ref 104, .ref 84], M)) (by decide +kernel) (hO := mm_own_280) rfl ?_
    obtain ⟨hb, h⟩ := mm_gd h
    refine mm_R_iald rfl rfl hb ?_
    refine mm_Runs.seq (l := [(254, .i2l, 1), (255, .iload 4, 2), (257, .iconst 1, 1)]) (S2 := (258, [some (.ref 84), z1, z2, z3, some (.int v4), z5, some (.int v6), z7], [.int (1 : Int32), .int v4, .long (M.1 104 v6.toNatClampNeg).toInt64, .ref 84], M)) (by decide +kernel) (hO := mm_own_280) rfl ?_
    refine mm_R_call (v := mm_wv) h hA (k2 := 249) (as := [.ref 84, .long (M.1 104 v6.toNatClampNeg).toInt64, .int v4, .int (1 : Int32)]) (r := []) rfl (fun _ => rfl) (fun q hq o ho => ms_249 (by omega) hq ho) (fun _ M1 h => ?_)
    show mm_Runs L xs (d + 1) 280 (261, [some (.ref 84), z1, z2, z3, some (.int v4), z5, some (.int v6), z7], [], M1) o
    refine mm_Runs.seq (l := [(261, .iinc 6 1, 3), (264, .goto (-27), 3)]) (S2 := (237, [some (.ref 84), z1, z2, z3, some (.int v4), (mm_no2 z5), some (.int (v6 + (1 : Int32))), z7], [], M1)) (by decide +kernel) (hO := mm_own_280) rfl ?_
    cases h
    exact (show mp_280_237 L xs (d + 1) v4 (v6 + (1 : Int32)) M1 o from hA) z1 z2 z3 ((mm_no2 z5)) z7
  · replace h := mm_iq hc h
    cases h
    exact (show mp_280_267 L xs (d + 1) M o from hA) (some (.ref 84)) z1 z2 z3 (some (.int v4)) z5 (some (.int v6)) z7
theorem ms_280_L237 {L : Nat} {xs : Nat → Int32} {d : Nat} (hd : 4 ≤ d) {v4 : Int32} {v6 : Int32} {β : Type} {K : β → mm_M → mm_E → Prop} {F : (Unit) → mm_M → mm_O β} {M : mm_M} {q : (β ⊕ Nat) × mm_M} {o : mm_E} (h : mm_B (mf_280_L237 v4 v6 M) F = some q) (hA : mm_A K q o) (hx : ∀ (r : (Unit)) (M2 : mm_M), F r M2 = some q → (fun r M o => mp_280_267 L xs (d) M o) r M2 o) : mp_280_237 L xs d v4 v6 M o := mm_R_loop (s := v6) (M := M) (P := (fun s M o => mp_280_237 L xs (d) v4 s M o)) (X := (fun r M o => mp_280_267 L xs (d) M o)) h hA (fun s M q hq hA => ms_280_b237 hd hq hA) hx
noncomputable def mf_280_j164 (v2 : Int32) (v4 : Int32) (M : mm_M) : mm_O Unit := mm_B (mf_249 (2 : Int64) (3 : Int32) (1 : Int32) M) (fun _ M1 => mm_B (mf_249 (((M.1 84 52) + (49 : Int32)) / (50 : Int32)).toInt64 (15 : Int32) (1 : Int32) M1) (fun _ M2 => mm_B (mf_249 (0 : Int64) (((M.1 84 52) + (49 : Int32)) / (50 : Int32)) (1 : Int32) M2) (fun _ M3 => mm_B (mf_280_L206 v2 v4 (0 : Int32) M3) (fun r5 M4 => mm_B (mf_280_L237 v4 (0 : Int32) M4) (fun r13 M12 => some (.inl (), M12))))))
set_option maxRecDepth 8000 in
set_option maxHeartbeats 4000000 in
theorem ms_280_j164 {L : Nat} {xs : Nat → Int32} {d : Nat} (hd : 4 ≤ d) {v2 : Int32} {v4 : Int32} {M : mm_M} {q : (Unit ⊕ Nat) × mm_M} {o : mm_E} (h : mf_280_j164 v2 v4 M = some q) (hA : mm_A (mm_Kr mm_wv) q o) : mp_280_164 L xs d v2 v4 M o := by
  unfold mf_280_j164 at h
  obtain ⟨d, rfl⟩ := mm_d1 (n := 3) hd
  intro z1 z3 z5 z6 z7
  show mm_Runs L xs (d + 1) 280 (164, [some (.ref 84), z1, some (.int v2), z3, some (.int v4), z5, z6, z7], [], M) o
  refine mm_Runs.seq (l := [(164, .aload_n 0, 1), (165, .getfield 510, 3), (168, .bipush 49, 2), (170, .iadd, 1), (171, .bipush 50, 2), (173, .idiv, 1), (174, .istore 5, 2), (176, .aload_n 0, 1), (177, .ldc2_w 336, 3), (180, .iconst 3, 1), (181, .iconst 1, 1)]) (S2 := (182, [some (.ref 84), z1, some (.int v2), z3, some (.int v4), some (.int (((M.1 84 52) + (49 : Int32)) / (50 : Int32))), z6, z7], [.int (1 : Int32), .int (3 : Int32), .long (2 : Int64), .ref 84], M)) (by decide +kernel) (hO := mm_own_280) rfl ?_
  refine mm_R_call (v := mm_wv) h hA (k2 := 249) (as := [.ref 84, .long (2 : Int64), .int (3 : Int32), .int (1 : Int32)]) (r := []) rfl (fun _ => rfl) (fun q hq o ho => ms_249 (by omega) hq ho) (fun _ M1 h => ?_)
  show mm_Runs L xs (d + 1) 280 (185, [some (.ref 84), z1, some (.int v2), z3, some (.int v4), some (.int (((M.1 84 52) + (49 : Int32)) / (50 : Int32))), z6, z7], [], M1) o
  refine mm_Runs.seq (l := [(185, .aload_n 0, 1), (186, .iload 5, 2), (188, .i2l, 1), (189, .bipush 15, 2), (191, .iconst 1, 1)]) (S2 := (192, [some (.ref 84), z1, some (.int v2), z3, some (.int v4), some (.int (((M.1 84 52) + (49 : Int32)) / (50 : Int32))), z6, z7], [.int (1 : Int32), .int (15 : Int32), .long (((M.1 84 52) + (49 : Int32)) / (50 : Int32)).toInt64, .ref 84], M1)) (by decide +kernel) (hO := mm_own_280) rfl ?_
  refine mm_R_call (v := mm_wv) h hA (k2 := 249) (as := [.ref 84, .long (((M.1 84 52) + (49 : Int32)) / (50 : Int32)).toInt64, .int (15 : Int32), .int (1 : Int32)]) (r := []) rfl (fun _ => rfl) (fun q hq o ho => ms_249 (by omega) hq ho) (fun _ M2 h => ?_)
  show mm_Runs L xs (d + 1) 280 (195, [some (.ref 84), z1, some (.int v2), z3, some (.int v4), some (.int (((M.1 84 52) + (49 : Int32)) / (50 : Int32))), z6, z7], [], M2) o
  refine mm_Runs.seq (l := [(195, .aload_n 0, 1), (196, .lconst 0, 1), (197, .iload 5, 2), (199, .iconst 1, 1)]) (S2 := (200, [some (.ref 84), z1, some (.int v2), z3, some (.int v4), some (.int (((M.1 84 52) + (49 : Int32)) / (50 : Int32))), z6, z7], [.int (1 : Int32), .int (((M.1 84 52) + (49 : Int32)) / (50 : Int32)), .long (0 : Int64), .ref 84], M2)) (by decide +kernel) (hO := mm_own_280) rfl ?_
  refine mm_R_call (v := mm_wv) h hA (k2 := 249) (as := [.ref 84, .long (0 : Int64), .int (((M.1 84 52) + (49 : Int32)) / (50 : Int32)), .int (1 : Int32)]) (r := []) rfl (fun _ => rfl) (fun q hq o ho => ms_249 (by omega) hq ho) (fun _ M3 h => ?_)
  show mm_Runs L xs (d + 1) 280 (203, [some (.ref 84), z1, some (.int v2), z3, some (.int v4), some (.int (((M.1 84 52) + (49 : Int32)) / (50 : Int32))), z6, z7], [], M3) o
  refine mm_Runs.seq (l := [(203, .iconst 0, 1), (204, .istore 6, 2)]) (S2 := (206, [some (.ref 84), z1, some (.int v2), z3, some (.int v4), some (.int (((M.1 84 52) + (49 : Int32)) / (50 : Int32))), some (.int (0 : Int32)), z7], [], M3)) (by decide +kernel) (hO := mm_own_280) rfl ?_
  have hp : mp_280_206 L xs (d + 1) v2 v4 (0 : Int32) M3 o := by
    refine ms_280_L206 hd h hA (fun r5 M4 h => ?_)
    intro y6 y7 y8 y9 y10 y11
    show mm_Runs L xs (d + 1) 280 (234, [some (.ref 84), y6, y7, y8, some (.int v4), y9, y10, y11], [], M4) o
    refine mm_Runs.seq (l := [(234, .iconst 0, 1), (235, .istore 6, 2)]) (S2 := (237, [some (.ref 84), y6, y7, y8, some (.int v4), (mm_no2 y9), some (.int (0 : Int32)), y11], [], M4)) (by decide +kernel) (hO := mm_own_280) rfl ?_
    have hp : mp_280_237 L xs (d + 1) v4 (0 : Int32) M4 o := by
      refine ms_280_L237 hd h hA (fun r13 M12 h => ?_)
      intro y14 y15 y16 y17 y18 y19 y20 y21
      show mm_Runs L xs (d + 1) 280 (267, [y14, y15, y16, y17, y18, y19, y20, y21], [], M12) o
      cases h
      exact mm_R_retv rfl rfl hA
    exact hp y6 y7 y8 ((mm_no2 y9)) y11
  exact hp z1 z3 (some (.int (((M.1 84 52) + (49 : Int32)) / (50 : Int32)))) z7
noncomputable def mf_280_j135 (v2 : Int32) (v3 : Int32) (M : mm_M) : mm_O Unit := mm_B (mf_279 v3 M) (fun _ M1 => mm_B (mf_278 (v2 - (1 : Int32)) M1) (fun _ M2 => mm_B (mf_280_L150 v2 (1 : Int32) M2) (fun r4 M3 => mf_280_j164 v2 r4 M3)))
set_option maxRecDepth 8000 in
set_option maxHeartbeats 4000000 in
theorem ms_280_j135 {L : Nat} {xs : Nat → Int32} {d : Nat} (hd : 4 ≤ d) {v2 : Int32} {v3 : Int32} {M : mm_M} {q : (Unit ⊕ Nat) × mm_M} {o : mm_E} (h : mf_280_j135 v2 v3 M = some q) (hA : mm_A (mm_Kr mm_wv) q o) : mp_280_135 L xs d v2 v3 M o := by
  unfold mf_280_j135 at h
  obtain ⟨d, rfl⟩ := mm_d1 (n := 3) hd
  intro z1 z4 z5 z6 z7
  show mm_Runs L xs (d + 1) 280 (135, [some (.ref 84), z1, some (.int v2), some (.int v3), z4, z5, z6, z7], [], M) o
  refine mm_Runs.seq (l := [(135, .aload_n 0, 1), (136, .iload_n 3, 1)]) (S2 := (137, [some (.ref 84), z1, some (.int v2), some (.int v3), z4, z5, z6, z7], [.int v3, .ref 84], M)) (by decide +kernel) (hO := mm_own_280) rfl ?_
  refine mm_R_call (v := mm_wv) h hA (k2 := 279) (as := [.ref 84, .int v3]) (r := []) rfl (fun _ => rfl) (fun q hq o ho => ms_279 (by omega) hq ho) (fun _ M1 h => ?_)
  show mm_Runs L xs (d + 1) 280 (140, [some (.ref 84), z1, some (.int v2), some (.int v3), z4, z5, z6, z7], [], M1) o
  refine mm_Runs.seq (l := [(140, .aload_n 0, 1), (141, .iload_n 2, 1), (142, .iconst 1, 1), (143, .isub, 1)]) (S2 := (144, [some (.ref 84), z1, some (.int v2), some (.int v3), z4, z5, z6, z7], [.int (v2 - (1 : Int32)), .ref 84], M1)) (by decide +kernel) (hO := mm_own_280) rfl ?_
  refine mm_R_call (v := mm_wv) h hA (k2 := 278) (as := [.ref 84, .int (v2 - (1 : Int32))]) (r := []) rfl (fun _ => rfl) (fun q hq o ho => ms_278 (by omega) hq ho) (fun _ M2 h => ?_)
  show mm_Runs L xs (d + 1) 280 (147, [some (.ref 84), z1, some (.int v2), some (.int v3), z4, z5, z6, z7], [], M2) o
  refine mm_Runs.seq (l := [(147, .iconst 1, 1), (148, .istore 4, 2)]) (S2 := (150, [some (.ref 84), z1, some (.int v2), some (.int v3), some (.int (1 : Int32)), z5, z6, z7], [], M2)) (by decide +kernel) (hO := mm_own_280) rfl ?_
  have hp : mp_280_150 L xs (d + 1) v2 (1 : Int32) M2 o := by
    refine ms_280_L150 hd h hA (fun r4 M3 h => ?_)
    intro y5 y6 y7 y8 y9
    show mm_Runs L xs (d + 1) 280 (164, [some (.ref 84), y5, some (.int v2), y6, some (.int r4), y7, y8, y9], [], M3) o
    exact (ms_280_j164 hd h hA : mp_280_164 L xs (d + 1) v2 r4 M3 o) y5 y6 y7 y8 y9
  exact hp z1 (some (.int v3)) z5 z6 z7
noncomputable def mf_280 (v1 : Int32) (M : mm_M) : mm_O Unit := mm_B (mf_280_L17 v1 ((M.1 84 20) + (2 : Int32)) ((0 : Int32), (0 : Int32)) (mm_pi M 84 52 (0 : Int32))) (fun r2 M1 => mf_280_j135 ((M.1 84 20) + (2 : Int32)) r2 M1)
set_option maxRecDepth 8000 in
set_option maxHeartbeats 4000000 in
theorem ms_280 {L : Nat} {xs : Nat → Int32} {d : Nat} (hd : 4 ≤ d) {v1 : Int32} {M : mm_M} {q : (Unit ⊕ Nat) × mm_M} {o : mm_E} (h : mf_280 v1 M = some q) (hA : mm_A (mm_Kr mm_wv) q o) : mm_Runs L xs d 280 (0, mm_ent (mm_ml 280) [.ref 84, .int v1], [], M) o := by
  unfold mf_280 at h
  obtain ⟨d, rfl⟩ := mm_d1 (n := 3) hd
  show mm_Runs L xs (d + 1) 280 (0, [some (.ref 84), some (.int v1), none, none, none, none, none, none], [], M) o
  refine mm_Runs.seq (l := [(0, .aload_n 0, 1), (1, .getfield 215, 3), (4, .iconst 2, 1), (5, .iadd, 1), (6, .istore_n 2, 1), (7, .aload_n 0, 1), (8, .iconst 0, 1), (9, .putfield 510, 3), (12, .iconst 0, 1), (13, .istore_n 3, 1), (14, .iconst 0, 1), (15, .istore 4, 2)]) (S2 := (17, [some (.ref 84), some (.int v1), some (.int ((M.1 84 20) + (2 : Int32))), some (.int (0 : Int32)), some (.int (0 : Int32)), none, none, none], [], (mm_pi M 84 52 (0 : Int32)))) (by decide +kernel) (hO := mm_own_280) rfl ?_
  have hp : mp_280_17 L xs (d + 1) v1 ((M.1 84 20) + (2 : Int32)) (0 : Int32) (0 : Int32) (mm_pi M 84 52 (0 : Int32)) o := by
    refine ms_280_L17 hd h hA (fun r2 M1 h => ?_)
    intro y3 y4 y5 y6 y7
    show mm_Runs L xs (d + 1) 280 (135, [some (.ref 84), y3, some (.int ((M.1 84 20) + (2 : Int32))), some (.int r2), y4, y5, y6, y7], [], M1) o
    exact (ms_280_j135 hd h hA : mp_280_135 L xs (d + 1) ((M.1 84 20) + (2 : Int32)) r2 M1 o) y3 y4 y5 y6 y7
  exact hp none none none
