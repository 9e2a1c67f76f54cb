/-! MEANINGS 34 -/
-- 251: PlainPacksModel.alikeAt(II)I (depth 0)
theorem mm_own_251 : mm_own 251 = 12 := rfl
def mp_251_2 (L : Nat) (xs : Nat → Int32) (d : Nat) (v1 : Int32) (v2 : Int32) (v3 : Int32) (M : mm_M) (o : mm_E) : Prop := mm_Runs L xs d 251 (2, [some (.ref 84), some (.int v1), some (.int v2), some (.int v3)], [], M) o
def mp_251_40 (L : Nat) (xs : Nat → Int32) (d : Nat) (v3 : Int32) (M : mm_M) (o : mm_E) : Prop := ∀ z0 z1 z2 : Option Value, mm_Runs L xs d 251 (40, [z0, z1, z2, some (.int v3)], [], M) o
noncomputable def mf_251_b2 (v1 : Int32) (v2 : Int32) (v3 : Int32) (M : mm_M) : mm_O ((Int32) ⊕ (Int32)) := if v3 < v2 then (if (v1 + v3) < (M.1 84 2) then (if mm_in (v1 + v3) 10000 then if mm_in v1 10000 then if (M.1 85 (v1 + v3).toNatClampNeg) = (M.1 85 v1.toNatClampNeg) then (some (.inl (.inl (v3 + (1 : Int32))), M)) else (some (.inl (.inr v3), M)) else none else none) else (some (.inl (.inr v3), M))) else (some (.inl (.inr v3), M))
noncomputable def mf_251_L2 (v1 : Int32) (v2 : Int32) (s : Int32) (M : mm_M) : mm_O (Int32) := mm_L (fun s M => mf_251_b2 v1 v2 s M) s M
set_option maxRecDepth 8000 in
set_option maxHeartbeats 4000000 in
theorem ms_251_b2 {L : Nat} {xs : Nat → Int32} {d : Nat} (hd : 0 ≤ d) {v1 : Int32} {v2 : Int32} {v3 : Int32} {M : mm_M} {q : (((Int32) ⊕ (Int32)) ⊕ Nat) × mm_M} {o : mm_E} (h : mf_251_b2 v1 v2 v3 M = some q) (hA : mm_A (mm_K2 (fun s M o => mp_251_2 L xs (d) v1 v2 s M o) (fun r M o => mp_251_40 L xs (d) r M o)) q o) : mp_251_2 L xs d v1 v2 v3 M o := by
  unfold mf_251_b2 at h
  show mm_Runs L xs (d) 251 (2, [some (.ref 84), some (.int v1), some (.int v2), some (.int v3)], [], M) o
  refine mm_Runs.seq (l := [(2, .iload_n 3, 1), (3, .iload_n 2, 1)]) (S2 := (4, [some (.ref 84), some (.int v1), some (.int v2), some (.int v3)], [.int v2, .int v3], M)) (by decide +kernel) (hO := mm_own_251) rfl ?_
  refine mm_R_ige (t := 40) rfl rfl rfl (fun hc => ?_) (fun hc => ?_)
  · replace h := mm_ip hc h
    refine mm_Runs.seq (l := [(7, .iload_n 1, 1), (8, .iload_n 3, 1), (9, .iadd, 1), (10, .aload_n 0, 1), (11, .getfield 91, 3)]) (S2 := (14, [some (.ref 84), some (.int v1), some (.int v2), some (.int v3)], [.int (M.1 84 2), .int (v1 + v3)], M)) (by decide +kernel) (hO := mm_own_251) rfl ?_
    refine mm_R_ige (t := 40) rfl rfl rfl (fun hc => ?_) (fun hc => ?_)
    · replace h := mm_ip hc h
      refine mm_Runs.seq (l := [(17, .aload_n 0, 1), (18, .getfield 7, 3), (21, .iload_n 1, 1), (22, .iload_n 3, 1), (23, .iadd, 1)]) (S2 := (24, [some (.ref 84), some (.int v1), some (.int v2), some (.int v3)], [.int (v1 + v3), .ref 85], M)) (by decide +kernel) (hO := mm_own_251) rfl ?_
      obtain ⟨hb, h⟩ := mm_gd h
      refine mm_R_iald rfl rfl hb ?_
      refine mm_Runs.seq (l := [(25, .aload_n 0, 1), (26, .getfield 7, 3), (29, .iload_n 1, 1)]) (S2 := (30, [some (.ref 84), some (.int v1), some (.int v2), some (.int v3)], [.int v1, .ref 85, .int (M.1 85 (v1 + v3).toNatClampNeg)], M)) (by decide +kernel) (hO := mm_own_251) rfl ?_
      obtain ⟨hb, h⟩ := mm_gd h
      refine mm_R_iald rfl rfl hb ?_
      refine mm_R_ine (t := 40) rfl rfl rfl (fun hc => ?_) (fun hc => ?_)
      · replace h := mm_ip hc h
        refine mm_Runs.seq (l := [(34, .iinc 3 1, 3), (37, .goto (-35), 3)]) (S2 := (2, [some (.ref 84), some (.int v1), some (.int v2), some (.int (v3 + (1 : Int32)))], [], M)) (by decide +kernel) (hO := mm_own_251) rfl ?_
        cases h
        exact (show mp_251_2 L xs (d) v1 v2 (v3 + (1 : Int32)) M o from hA)
      · replace h := mm_iq hc h
        cases h
        exact (show mp_251_40 L xs (d) v3 M o from hA) (some (.ref 84)) (some (.int v1)) (some (.int v2))
    · replace h := mm_iq hc h
      cases h
      exact (show mp_251_40 L xs (d) v3 M o from hA) (some (.ref 84)) (some (.int v1)) (some (.int v2))
  · replace h := mm_iq hc h
    cases h
    exact (show mp_251_40 L xs (d) v3 M o from hA) (some (.ref 84)) (some (.int v1)) (some (.int v2))
theorem ms_251_L2 {L : Nat} {xs : Nat → Int32} {d : Nat} (hd : 0 ≤ d) {v1 : Int32} {v2 : Int32} {v3 : Int32} {β : Type} {K : β → mm_M → mm_E → Prop} {F : (Int32) → mm_M → mm_O β} {M : mm_M} {q : (β ⊕ Nat) × mm_M} {o : mm_E} (h : mm_B (mf_251_L2 v1 v2 v3 M) F = some q) (hA : mm_A K q o) (hx : ∀ (r : (Int32)) (M2 : mm_M), F r M2 = some q → (fun r M o => mp_251_40 L xs (d) r M o) r M2 o) : mp_251_2 L xs d v1 v2 v3 M o := mm_R_loop (s := v3) (M := M) (P := (fun s M o => mp_251_2 L xs (d) v1 v2 s M o)) (X := (fun r M o => mp_251_40 L xs (d) r M o)) h hA (fun s M q hq hA => ms_251_b2 hd hq hA) hx
noncomputable def mf_251 (v1 : Int32) (v2 : Int32) (M : mm_M) : mm_O Int32 := mm_B (mf_251_L2 v1 v2 (1 : Int32) M) (fun r2 M1 => some (.inl r2, M1))
set_option maxRecDepth 8000 in
set_option maxHeartbeats 4000000 in
theorem ms_251 {L : Nat} {xs : Nat → Int32} {d : Nat} (hd : 0 ≤ d) {v1 : Int32} {v2 : Int32} {M : mm_M} {q : (Int32 ⊕ Nat) × mm_M} {o : mm_E} (h : mf_251 v1 v2 M = some q) (hA : mm_A (mm_Kr mm_wi) q o) : mm_Runs L xs d 251 (0, mm_ent (mm_ml 251) [.ref 84, .int v1, .int v2], [], M) o := by
  unfold mf_251 at h
  show mm_Runs L xs (d) 251 (0, [some (.ref 84), some (.int v1), some (.int v2), none], [], M) o
  refine mm_Runs.seq (l := [(0, .iconst 1, 1), (1, .istore_n 3, 1)]) (S2 := (2, [some (.ref 84), some (.int v1), some (.int v2), some (.int (1 : Int32))], [], M)) (by decide +kernel) (hO := mm_own_251) rfl ?_
  have hp : mp_251_2 L xs (d) v1 v2 (1 : Int32) M o := by
    refine ms_251_L2 hd h hA (fun r2 M1 h => ?_)
    intro y3 y4 y5
    show mm_Runs L xs (d) 251 (40, [y3, y4, y5, some (.int r2)], [], M1) o
    refine mm_Runs.seq (l := [(40, .iload_n 3, 1)]) (S2 := (41, [y3, y4, y5, some (.int r2)], [.int r2], M1)) (by decide +kernel) (hO := mm_own_251) rfl ?_
    cases h
    exact mm_R_reti rfl rfl hA
  exact hp
-- 245: PlainPacksModel.write(I)V (depth 0)
theorem mm_own_245 : mm_own 245 = 12 := rfl
noncomputable def mf_245 (v1 : Int32) (M : mm_M) : mm_O Unit := if (M.1 84 41) < (16384 : Int32) then (if mm_in (M.1 84 41) 16384 then some (.inl (), (mm_pi (mm_pi M 100 (M.1 84 41).toNatClampNeg v1) 84 41 ((M.1 84 41) + (1 : Int32)))) else none) else (some (.inl (), (mm_pi M 84 41 ((M.1 84 41) + (1 : Int32)))))
set_option maxRecDepth 8000 in
set_option maxHeartbeats 4000000 in
theorem ms_245 {L : Nat} {xs : Nat → Int32} {d : Nat} (hd : 0 ≤ d) {v1 : Int32} {M : mm_M} {q : (Unit ⊕ Nat) × mm_M} {o : mm_E} (h : mf_245 v1 M = some q) (hA : mm_A (mm_Kr mm_wv) q o) : mm_Runs L xs d 245 (0, mm_ent (mm_ml 245) [.ref 84, .int v1], [], M) o := by
  unfold mf_245 at h
  show mm_Runs L xs (d) 245 (0, [some (.ref 84), some (.int v1)], [], M) o
  refine mm_Runs.seq (l := [(0, .aload_n 0, 1), (1, .getfield 406, 3), (4, .sipush 16384, 3)]) (S2 := (7, [some (.ref 84), some (.int v1)], [.int (16384 : Int32), .int (M.1 84 41)], M)) (by decide +kernel) (hO := mm_own_245) rfl ?_
  refine mm_R_ige (t := 20) rfl rfl rfl (fun hc => ?_) (fun hc => ?_)
  · replace h := mm_ip hc h
    refine mm_Runs.seq (l := [(10, .aload_n 0, 1), (11, .getfield 57, 3), (14, .aload_n 0, 1), (15, .getfield 406, 3), (18, .iload_n 1, 1)]) (S2 := (19, [some (.ref 84), some (.int v1)], [.int v1, .int (M.1 84 41), .ref 100], M)) (by decide +kernel) (hO := mm_own_245) rfl ?_
    obtain ⟨hb, h⟩ := mm_gd h
    refine mm_R_iast rfl rfl hb ?_
    refine mm_Runs.seq (l := [(20, .aload_n 0, 1), (21, .dup, 1), (22, .getfield 406, 3), (25, .iconst 1, 1), (26, .iadd, 1), (27, .putfield 406, 3)]) (S2 := (30, [some (.ref 84), some (.int v1)], [], (mm_pi (mm_pi M 100 (M.1 84 41).toNatClampNeg v1) 84 41 ((M.1 84 41) + (1 : Int32))))) (by decide +kernel) (hO := mm_own_245) rfl ?_
    cases h
    exact mm_R_retv rfl rfl hA
  · replace h := mm_iq hc h
    refine mm_Runs.seq (l := [(20, .aload_n 0, 1), (21, .dup, 1), (22, .getfield 406, 3), (25, .iconst 1, 1), (26, .iadd, 1), (27, .putfield 406, 3)]) (S2 := (30, [some (.ref 84), some (.int v1)], [], (mm_pi M 84 41 ((M.1 84 41) + (1 : Int32))))) (by decide +kernel) (hO := mm_own_245) rfl ?_
    cases h
    exact mm_R_retv rfl rfl hA
-- 252: PlainPacksModel.packRuns()V (depth 1)
theorem mm_own_252 : mm_own 252 = 12 := rfl
def mp_252_2 (L : Nat) (xs : Nat → Int32) (d : Nat) (v1 : Int32) (M : mm_M) (o : mm_E) : Prop := ∀ z2 z3 : Option Value, mm_Runs L xs d 252 (2, [some (.ref 84), some (.int v1), z2, z3], [], M) o
def mp_252_118 (L : Nat) (xs : Nat → Int32) (d : Nat) (M : mm_M) (o : mm_E) : Prop := ∀ z0 z1 z2 z3 : Option Value, mm_Runs L xs d 252 (118, [z0, z1, z2, z3], [], M) o
def mp_252_52 (L : Nat) (xs : Nat → Int32) (d : Nat) (v1 : Int32) (v3 : Int32) (M : mm_M) (o : mm_E) : Prop := ∀ z2 : Option Value, mm_Runs L xs d 252 (52, [some (.ref 84), some (.int v1), z2, some (.int v3)], [], M) o
def mp_252_85 (L : Nat) (xs : Nat → Int32) (d : Nat) (v1 : Int32) (v3 : Int32) (M : mm_M) (o : mm_E) : Prop := ∀ z2 : Option Value, mm_Runs L xs d 252 (85, [some (.ref 84), some (.int v1), z2, some (.int v3)], [], M) o
noncomputable def mf_252_b52 (v1 : Int32) (v3 : Int32) (M : mm_M) : mm_O ((Int32) ⊕ (Int32)) := if v3 < (M.1 84 2) then (if (v3 - v1) < (128 : Int32) then (mm_B (mf_251 v3 (3 : Int32) M) (fun r1 M2 => if r1 < (3 : Int32) then (some (.inl (.inl (v3 + (1 : Int32))), M2)) else (some (.inl (.inr v3), M2)))) else (some (.inl (.inr v3), M))) else (some (.inl (.inr v3), M))
noncomputable def mf_252_L52 (v1 : Int32) (s : Int32) (M : mm_M) : mm_O (Int32) := mm_L (fun s M => mf_252_b52 v1 s M) s M
set_option maxRecDepth 8000 in
set_option maxHeartbeats 4000000 in
theorem ms_252_b52 {L : Nat} {xs : Nat → Int32} {d : Nat} (hd : 1 ≤ d) {v1 : Int32} {v3 : Int32} {M : mm_M} {q : (((Int32) ⊕ (Int32)) ⊕ Nat) × mm_M} {o : mm_E} (h : mf_252_b52 v1 v3 M = some q) (hA : mm_A (mm_K2 (fun s M o => mp_252_52 L xs (d) v1 s M o) (fun r M o => mp_252_85 L xs (d) v1 r M o)) q o) : mp_252_52 L xs d v1 v3 M o := by
  unfold mf_252_b52 at h
  obtain ⟨d, rfl⟩ := mm_d1 (n := 0) hd
  intro z2
  show mm_Runs L xs (d + 1) 252 (52, [some (.ref 84), some (.int v1), z2, some (.int v3)], [], M) o
  refine mm_Runs.seq (l := [(52, .iload_n 3, 1), (53, .aload_n 0, 1), (54, .getfield 91, 3)]) (S2 := (57, [some (.ref 84), some (.int v1), z2, some (.int v3)], [.int (M.1 84 2), .int v3], M)) (by decide +kernel) (hO := mm_own_252) rfl ?_
  refine mm_R_ige (t := 85) rfl rfl rfl (fun hc => ?_) (fun hc => ?_)
  · replace h := mm_ip hc h
    refine mm_Runs.seq (l := [(60, .iload_n 3, 1), (61, .iload_n 1, 1), (62, .isub, 1), (63, .sipush 128, 3)]) (S2 := (66, [some (.ref 84), some (.int v1), z2, some (.int v3)], [.int (128 : Int32), .int (v3 - v1)], M)) (by decide +kernel) (hO := mm_own_252) rfl ?_
    refine mm_R_ige (t := 85) rfl rfl rfl (fun hc => ?_) (fun hc => ?_)
    · replace h := mm_ip hc h
      refine mm_Runs.seq (l := [(69, .aload_n 0, 1), (70, .iload_n 3, 1), (71, .iconst 3, 1)]) (S2 := (72, [some (.ref 84), some (.int v1), z2, some (.int v3)], [.int (3 : Int32), .int v3, .ref 84], M)) (by decide +kernel) (hO := mm_own_252) rfl ?_
      refine mm_R_call (v := mm_wi) h hA (k2 := 251) (as := [.ref 84, .int v3, .int (3 : Int32)]) (r := []) rfl (fun _ => rfl) (fun q hq o ho => ms_251 (by omega) hq ho) (fun r1 M2 h => ?_)
      show mm_Runs L xs (d + 1) 252 (75, [some (.ref 84), some (.int v1), z2, some (.int v3)], [.int r1], M2) o
      refine mm_Runs.seq (l := [(75, .iconst 3, 1)]) (S2 := (76, [some (.ref 84), some (.int v1), z2, some (.int v3)], [.int (3 : Int32), .int r1], M2)) (by decide +kernel) (hO := mm_own_252) rfl ?_
      refine mm_R_ige (t := 85) rfl rfl rfl (fun hc => ?_) (fun hc => ?_)
      · replace h := mm_ip hc h
        refine mm_Runs.seq (l := [(79, .iinc 3 1, 3), (82, .goto (-30), 3)]) (S2 := (52, [some (.ref 84), some (.int v1), (mm_no2 z2), some (.int (v3 + (1 : Int32)))], [], M2)) (by decide +kernel) (hO := mm_own_252) rfl ?_
        cases h
        exact (show mp_252_52 L xs (d + 1) v1 (v3 + (1 : Int32)) M2 o from hA) ((mm_no2 z2))
      · replace h := mm_iq hc h
        cases h
        exact (show mp_252_85 L xs (d + 1) v1 v3 M2 o from hA) z2
    · replace h := mm_iq hc h
      cases h
      exact (show mp_252_85 L xs (d + 1) v1 v3 M o from hA) z2
  · replace h := mm_iq hc h
    cases h
    exact (show mp_252_85 L xs (d + 1) v1 v3 M o from hA) z2
theorem ms_252_L52 {L : Nat} {xs : Nat → Int32} {d : Nat} (hd : 1 ≤ d) {v1 : Int32} {v3 : Int32} {β : Type} {K : β → mm_M → mm_E → Prop} {F : (Int32) → mm_M → mm_O β} {M : mm_M} {q : (β ⊕ Nat) × mm_M} {o : mm_E} (h : mm_B (mf_252_L52 v1 v3 M) F = some q) (hA : mm_A K q o) (hx : ∀ (r : (Int32)) (M2 : mm_M), F r M2 = some q → (fun r M o => mp_252_85 L xs (d) v1 r M o) r M2 o) : mp_252_52 L xs d v1 v3 M o := mm_R_loop (s := v3) (M := M) (P := (fun s M o => mp_252_52 L xs (d) v1 s M o)) (X := (fun r M o => mp_252_85 L xs (d) v1 r M o)) h hA (fun s M q hq hA => ms_252_b52 hd hq hA) hx
def mp_252_94 (L : Nat) (xs : Nat → Int32) (d : Nat) (v1 : Int32) (v3 : Int32) (M : mm_M) (o : mm_E) : Prop := ∀ z2 : Option Value, mm_Runs L xs d 252 (94, [some (.ref 84), some (.int v1), z2, some (.int v3)], [], M) o
def mp_252_115 (L : Nat) (xs : Nat → Int32) (d : Nat) (v1 : Int32) (M : mm_M) (o : mm_E) : Prop := ∀ z2 z3 : Option Value, mm_Runs L xs d 252 (115, [some (.ref 84), some (.int v1), z2, z3], [], M) o
noncomputable def mf_252_b94 (v1 : Int32) (v3 : Int32) (M : mm_M) : mm_O ((Int32) ⊕ (Int32)) := if v1 < v3 then (if mm_in v1 10000 then mm_B (mf_245 (M.1 85 v1.toNatClampNeg) M) (fun _ M1 => some (.inl (.inl (v1 + (1 : Int32))), M1)) else none) else (some (.inl (.inr v1), M))
noncomputable def mf_252_L94 (v3 : Int32) (s : Int32) (M : mm_M) : mm_O (Int32) := mm_L (fun s M => mf_252_b94 s v3 M) s M
set_option maxRecDepth 8000 in
set_option maxHeartbeats 4000000 in
theorem ms_252_b94 {L : Nat} {xs : Nat → Int32} {d : Nat} (hd : 1 ≤ d) {v1 : Int32} {v3 : Int32} {M : mm_M} {q : (((Int32) ⊕ (Int32)) ⊕ Nat) × mm_M} {o : mm_E} (h : mf_252_b94 v1 v3 M = some q) (hA : mm_A (mm_K2 (fun s M o => mp_252_94 L xs (d) s v3 M o) (fun r M o => mp_252_115 L xs (d) r M o)) q o) : mp_252_94 L xs d v1 v3 M o := by
  unfold mf_252_b94 at h
  obtain ⟨d, rfl⟩ := mm_d1 (n := 0) hd
  intro z2
  show mm_Runs L xs (d + 1) 252 (94, [some (.ref 84), some (.int v1), z2, some (.int v3)], [], M) o
  refine mm_Runs.seq (l := [(94, .iload_n 1, 1), (95, .iload_n 3, 1)]) (S2 := (96, [some (.ref 84), some (.int v1), z2, some (.int v3)], [.int v3, .int v1], M)) (by decide +kernel) (hO := mm_own_252) rfl ?_
  refine mm_R_ige (t := 115) rfl rfl rfl (fun hc => ?_) (fun hc => ?_)
  · replace h := mm_ip hc h
    refine mm_Runs.seq (l := [(99, .aload_n 0, 1), (100, .aload_n 0, 1), (101, .getfield 7, 3), (104, .iload_n 1, 1)]) (S2 := (105, [some (.ref 84), some (.int v1), z2, some (.int v3)], [.int v1, .ref 85, .ref 84], M)) (by decide +kernel) (hO := mm_own_252) rfl ?_
    obtain ⟨hb, h⟩ := mm_gd h
    refine mm_R_iald rfl rfl hb ?_
    refine mm_R_call (v := mm_wv) h hA (k2 := 245) (as := [.ref 84, .int (M.1 85 v1.toNatClampNeg)]) (r := []) rfl (fun _ => rfl) (fun q hq o ho => ms_245 (by omega) hq ho) (fun _ M1 h => ?_)
    show mm_Runs L xs (d + 1) 252 (109, [some (.ref 84), some (.int v1), z2, some (.int v3)], [], M1) o
    refine mm_Runs.seq (l := [(109, .iinc 1 1, 3), (112, .goto (-18), 3)]) (S2 := (94, [some (.ref 84), some (.int (v1 + (1 : Int32))), z2, some (.int v3)], [], M1)) (by decide +kernel) (hO := mm_own_252) rfl ?_
    cases h
    exact (show mp_252_94 L xs (d + 1) (v1 + (1 : Int32)) v3 M1 o from hA) z2
  · replace h := mm_iq hc h
    cases h
    exact (show mp_252_115 L xs (d + 1) v1 M o from hA) z2 (some (.int v3))
theorem ms_252_L94 {L : Nat} {xs : Nat → Int32} {d : Nat} (hd : 1 ≤ d) {v1 : Int32} {v3 : Int32} {β : Type} {K : β → mm_M → mm_E → Prop} {F : (Int32) → mm_M → mm_O β} {M : mm_M} {q : (β ⊕ Nat) × mm_M} {o : mm_E} (h : mm_B (mf_252_L94 v3 v1 M) F = some q) (hA : mm_A K q o) (hx : ∀ (r : (Int32)) (M2 : mm_M), F r M2 = some q → (fun r M o => mp_252_115 L xs (d) r M o) r M2 o) : mp_252_94 L xs d v1 v3 M o := mm_R_loop (s := v1) (M := M) (P := (fun s M o => mp_252_94 L xs (d) s v3 M o)) (X := (fun r M o => mp_252_115 L xs (d) r M o)) h hA (fun s M q hq hA => ms_252_b94 hd hq hA) hx
noncomputable def mf_252_j85 (v1 : Int32) (v3 : Int32) (M : mm_M) : mm_O ((Int32) ⊕ (Unit)) := mm_B (mf_245 ((v3 - v1) - (1 : Int32)) M) (fun _ M1 => mm_B (mf_252_L94 v3 v1 M1) (fun r3 M2 => some (.inl (.inl r3), M2)))
set_option maxRecDepth 8000 in
set_option maxHeartbeats 4000000 in
theorem ms_252_j85 {L : Nat} {xs : Nat → Int32} {d : Nat} (hd : 1 ≤ d) {v1 : Int32} {v3 : Int32} {M : mm_M} {q : (((Int32) ⊕ (Unit)) ⊕ Nat) × mm_M} {o : mm_E} (h : mf_252_j85 v1 v3 M = some q) (hA : mm_A (mm_K2 (fun s M o => mp_252_2 L xs (d) s M o) (fun r M o => mp_252_118 L xs (d) M o)) q o) : mp_252_85 L xs d v1 v3 M o := by
  unfold mf_252_j85 at h
  obtain ⟨d, rfl⟩ := mm_d1 (n := 0) hd
  intro z2
  show mm_Runs L xs (d + 1) 252 (85, [some (.ref 84), some (.int v1), z2, some (.int v3)], [], M) o
  refine mm_Runs.seq (l := [(85, .aload_n 0, 1), (86, .iload_n 3, 1), (87, .iload_n 1, 1), (88, .isub, 1), (89, .iconst 1, 1), (90, .isub, 1)]) (S2 := (91, [some (.ref 84), some (.int v1), z2, some (.int v3)], [.int ((v3 - v1) - (1 : Int32)), .ref 84], M)) (by decide +kernel) (hO := mm_own_252) rfl ?_
  refine mm_R_call (v := mm_wv) h hA (k2 := 245) (as := [.ref 84, .int ((v3 - v1) - (1 : Int32))]) (r := []) rfl (fun _ => rfl) (fun q hq o ho => ms_245 (by omega) hq ho) (fun _ M1 h => ?_)
  show mm_Runs L xs (d + 1) 252 (94, [some (.ref 84), some (.int v1), z2, some (.int v3)], [], M1) o
  have hp : mp_252_94 L xs (d + 1) v1 v3 M1 o := by
    refine ms_252_L94 hd h hA (fun r3 M2 h => ?_)
    intro y4 y5
    show mm_Runs L xs (d + 1) 252 (115, [some (.ref 84), some (.int r3), y4, y5], [], M2) o
    refine mm_Runs.seq (l := [(115, .goto (-113), 3)]) (S2 := (2, [some (.ref 84), some (.int r3), y4, y5], [], M2)) (by decide +kernel) (hO := mm_own_252) rfl ?_
    cases h
    exact (show mp_252_2 L xs (d + 1) r3 M2 o from hA) y4 y5
  exact hp z2
noncomputable def mf_252_b2 (v1 : Int32) (M : mm_M) : mm_O ((Int32) ⊕ (Unit)) := if v1 < (M.1 84 2) then (mm_B (mf_251 v1 (128 : Int32) M) (fun r1 M2 => if (2 : Int32) < r1 then (mm_B (mf_245 ((257 : Int32) - r1) M2) (fun _ M3 => if mm_in v1 10000 then mm_B (mf_245 (M3.1 85 v1.toNatClampNeg) M3) (fun _ M4 => some (.inl (.inl (v1 + r1)), M4)) else none)) else (mm_B (mf_252_L52 v1 v1 M2) (fun r6 M5 => mf_252_j85 v1 r6 M5)))) else (some (.inl (.inr ()), M))
noncomputable def mf_252_L2 (s : Int32) (M : mm_M) : mm_O (Unit) := mm_L (fun s M => mf_252_b2 s M) s M
set_option maxRecDepth 8000 in
set_option maxHeartbeats 4000000 in
theorem ms_252_b2 {L : Nat} {xs : Nat → Int32} {d : Nat} (hd : 1 ≤ d) {v1 : Int32} {M : mm_M} {q : (((Int32) ⊕ (Unit)) ⊕ Nat) × mm_M} {o : mm_E} (h : mf_252_b2 v1 M = some q) (hA : mm_A (mm_K2 (fun s M o => mp_252_2 L xs (d) s M o) (fun r M o => mp_252_118 L xs (d) M o)) q o) : mp_252_2 L xs d v1 M o := by
  unfold mf_252_b2 at h
  obtain ⟨d, rfl⟩ := mm_d1 (n := 0) hd
  intro z2 z3
  show mm_Runs L xs (d + 1) 252 (2, [some (.ref 84), some (.int v1), z2, z3], [], M) o
  refine mm_Runs.seq (l := [(2, .iload_n 1, 1), (3, .aload_n 0, 1), (4, .getfield 91, 3)]) (S2 := (7, [some (.ref 84), some (.int v1), z2, z3], [.int (M.1 84 2), .int v1], M)) (by decide +kernel) (hO := mm_own_252) rfl ?_
  refine mm_R_ige (t := 118) rfl rfl rfl (fun hc => ?_) (fun hc => ?_)
  · replace h := mm_ip hc h
    refine mm_Runs.seq (l := [(10, .aload_n 0, 1), (11, .iload_n 1, 1), (12, .sipush 128, 3)]) (S2 := (15, [some (.ref 84), some (.int v1), z2, z3], [.int (128 : Int32), .int v1, .ref 84], M)) (by decide +kernel) (hO := mm_own_252) rfl ?_
    refine mm_R_call (v := mm_wi) h hA (k2 := 251) (as := [.ref 84, .int v1, .int (128 : Int32)]) (r := []) rfl (fun _ => rfl) (fun q hq o ho => ms_251 (by omega) hq ho) (fun r1 M2 h => ?_)
    show mm_Runs L xs (d + 1) 252 (18, [some (.ref 84), some (.int v1), z2, z3], [.int r1], M2) o
    refine mm_Runs.seq (l := [(18, .istore_n 2, 1), (19, .iload_n 2, 1), (20, .iconst 2, 1)]) (S2 := (21, [some (.ref 84), some (.int v1), some (.int r1), z3], [.int (2 : Int32), .int r1], M2)) (by decide +kernel) (hO := mm_own_252) rfl ?_
    refine mm_R_ile (t := 50) rfl rfl rfl (fun hc => ?_) (fun hc => ?_)
    · replace h := mm_ip hc h
      refine mm_Runs.seq (l := [(24, .aload_n 0, 1), (25, .sipush 257, 3), (28, .iload_n 2, 1), (29, .isub, 1)]) (S2 := (30, [some (.ref 84), some (.int v1), some (.int r1), z3], [.int ((257 : Int32) - r1), .ref 84], M2)) (by decide +kernel) (hO := mm_own_252) rfl ?_
      refine mm_R_call (v := mm_wv) h hA (k2 := 245) (as := [.ref 84, .int ((257 : Int32) - r1)]) (r := []) rfl (fun _ => rfl) (fun q hq o ho => ms_245 (by omega) hq ho) (fun _ M3 h => ?_)
      show mm_Runs L xs (d + 1) 252 (33, [some (.ref 84), some (.int v1), some (.int r1), z3], [], M3) o
      refine mm_Runs.seq (l := [(33, .aload_n 0, 1), (34, .aload_n 0, 1), (35, .getfield 7, 3), (38, .iload_n 1, 1)]) (S2 := (39, [some (.ref 84), some (.int v1), some (.int r1), z3], [.int v1, .ref 85, .ref 84], M3)) (by decide +kernel) (hO := mm_own_252) rfl ?_
      obtain ⟨hb, h⟩ := mm_gd h
      refine mm_R_iald rfl rfl hb ?_
      refine mm_R_call (v := mm_wv) h hA (k2 := 245) (as := [.ref 84, .int (M3.1 85 v1.toNatClampNeg)]) (r := []) rfl (fun _ => rfl) (fun q hq o ho => ms_245 (by omega) hq ho) (fun _ M4 h => ?_)
      show mm_Runs L xs (d + 1) 252 (43, [some (.ref 84), some (.int v1), some (.int r1), z3], [], M4) o
      refine mm_Runs.seq (l := [(43, .iload_n 1, 1), (44, .iload_n 2, 1), (45, .iadd, 1), (46, .istore_n 1, 1), (47, .goto 68, 3), (115, .goto (-113), 3)]) (S2 := (2, [some (.ref 84), some (.int (v1 + r1)), some (.int r1), z3], [], M4)) (by decide +kernel) (hO := mm_own_252) rfl ?_
      cases h
      exact (show mp_252_2 L xs (d + 1) (v1 + r1) M4 o from hA) (some (.int r1)) z3
    · replace h := mm_iq hc h
      refine mm_Runs.seq (l := [(50, .iload_n 1, 1), (51, .istore_n 3, 1)]) (S2 := (52, [some (.ref 84), some (.int v1), some (.int r1), some (.int v1)], [], M2)) (by decide +kernel) (hO := mm_own_252) rfl ?_
      have hp : mp_252_52 L xs (d + 1) v1 v1 M2 o := by
        refine ms_252_L52 hd h hA (fun r6 M5 h => ?_)
        intro y7
        show mm_Runs L xs (d + 1) 252 (85, [some (.ref 84), some (.int v1), y7, some (.int r6)], [], M5) o
        exact (ms_252_j85 hd h hA : mp_252_85 L xs (d + 1) v1 r6 M5 o) y7
      exact hp (some (.int r1))
  · replace h := mm_iq hc h
    cases h
    exact (show mp_252_118 L xs (d + 1) M o from hA) (some (.ref 84)) (some (.int v1)) z2 z3
theorem ms_252_L2 {L : Nat} {xs : Nat → Int32} {d : Nat} (hd : 1 ≤ d) {v1 : Int32} {β : Type} {K : β → mm_M → mm_E → Prop} {F : (Unit) → mm_M → mm_O β} {M : mm_M} {q : (β ⊕ Nat) × mm_M} {o : mm_E} (h : mm_B (mf_252_L2 v1 M) F = some q) (hA : mm_A K q o) (hx : ∀ (r : (Unit)) (M2 : mm_M), F r M2 = some q → (fun r M o => mp_252_118 L xs (d) M o) r M2 o) : mp_252_2 L xs d v1 M o := mm_R_loop (s := v1) (M := M) (P := (fun s M o => mp_252_2 L xs (d) s M o)) (X := (fun r M o => mp_252_118 L xs (d) M o)) h hA (fun s M q hq hA => ms_252_b2 hd hq hA) hx
noncomputable def mf_252 (M : mm_M) : mm_O Unit := mm_B (mf_252_L2 (0 : Int32) M) (fun r2 M1 => some (.inl (), M1))
set_option maxRecDepth 8000 in
set_option maxHeartbeats 4000000 in
theorem ms_252 {L : Nat} {xs : Nat → Int32} {d : Nat} (hd : 1 ≤ d) {M : mm_M} {q : (Unit ⊕ Nat) × mm_M} {o : mm_E} (h : mf_252 M = some q) (hA : mm_A (mm_Kr mm_wv) q o) : mm_Runs L xs d 252 (0, mm_ent (mm_ml 252) [.ref 84], [], M) o := by
  unfold mf_252 at h
  obtain ⟨d, rfl⟩ := mm_d1 (n := 0) hd
  show mm_Runs L xs (d + 1) 252 (0, [some (.ref 84), none, none, none], [], M) o
  refine mm_Runs.seq (l := [(0, .iconst 0, 1), (1, .istore_n 1, 1)]) (S2 := (2, [some (.ref 84), some (.int (0 : Int32)), none, none], [], M)) (by decide +kernel) (hO := mm_own_252) rfl ?_
  have hp : mp_252_2 L xs (d + 1) (0 : Int32) M o := by
    refine ms_252_L2 hd h hA (fun r2 M1 h => ?_)
    intro y3 y4 y5 y6
    show mm_Runs L xs (d + 1) 252 (118, [y3, y4, y5, y6], [], M1) o
    cases h
    exact mm_R_retv rfl rfl hA
  exact hp none none
-- 248: PlainPacksModel.writeRest()V (depth 1)
theorem mm_own_248 : mm_own 248 = 12 := rfl
noncomputable def mf_248 (M : mm_M) : mm_O Unit := if 0 < (M.1 84 43) then (mm_B (mf_245 (M.1 84 42) M) (fun _ M1 => some (.inl (), (mm_pi (mm_pi M1 84 42 (0 : Int32)) 84 43 (0 : Int32))))) else (some (.inl (), (mm_pi (mm_pi M 84 42 (0 : Int32)) 84 43 (0 : Int32))))
set_option maxRecDepth 8000 in
set_option maxHeartbeats 4000000 in
theorem ms_248 {L : Nat} {xs : Nat → Int32} {d : Nat} (hd : 1 ≤ d) {M : mm_M} {q : (Unit ⊕ Nat) × mm_M} {o : mm_E} (h : mf_248 M = some q) (hA : mm_A (mm_Kr mm_wv) q o) : mm_Runs L xs d 248 (0, mm_ent (mm_ml 248) [.ref 84], [], M) o := by
  unfold mf_248 at h
  obtain ⟨d, rfl⟩ := mm_d1 (n := 0) hd
  show mm_Runs L xs (d + 1) 248 (0, [some (.ref 84)], [], M) o
  refine mm_Runs.seq (l := [(0, .aload_n 0, 1), (1, .getfield 415, 3)]) (S2 := (4, [some (.ref 84)], [.int (M.1 84 43)], M)) (by decide +kernel) (hO := mm_own_248) rfl ?_
  refine mm_R_zle (t := 15) rfl rfl rfl (fun hc => ?_) (fun hc => ?_)
  · replace h := mm_ip hc h
    refine mm_Runs.seq (l := [(7, .aload_n 0, 1), (8, .aload_n 0, 1), (9, .getfield 412, 3)]) (S2 := (12, [some (.ref 84)], [.int (M.1 84 42), .ref 84], M)) (by decide +kernel) (hO := mm_own_248) rfl ?_
    refine mm_R_call (v := mm_wv) h hA (k2 := 245) (as := [.ref 84, .int (M.1 84 42)]) (r := []) rfl (fun _ => rfl) (fun q hq o ho => ms_245 (by omega) hq ho) (fun _ M1 h => ?_)
    show mm_Runs L xs (d + 1) 248 (15, [some (.ref 84)], [], M1) o
    refine mm_Runs.seq (l := [(15, .aload_n 0, 1), (16, .iconst 0, 1), (17, .putfield 412, 3), (20, .aload_n 0, 1), (21, .iconst 0, 1), (22, .putfield 415, 3)]) (S2 := (25, [some (.ref 84)], [], (mm_pi (mm_pi M1 84 42 (0 : Int32)) 84 43 (0 : Int32)))) (by decide +kernel) (hO := mm_own_248) rfl ?_
    cases h
    exact mm_R_retv rfl rfl hA
  · replace h := mm_iq hc h
    refine mm_Runs.seq (l := [(15, .aload_n 0, 1), (16, .iconst 0, 1), (17, .putfield 412, 3), (20, .aload_n 0, 1), (21, .iconst 0, 1), (22, .putfield 415, 3)]) (S2 := (25, [some (.ref 84)], [], (mm_pi (mm_pi M 84 42 (0 : Int32)) 84 43 (0 : Int32)))) (by decide +kernel) (hO := mm_own_248) rfl ?_
    cases h
    exact mm_R_retv rfl rfl hA
-- 247: PlainPacksModel.writeBit(I)V (depth 2)
theorem mm_own_247 : mm_own 247 = 12 := rfl
def mp_247_30 (L : Nat) (xs : Nat → Int32) (d : Nat) (s1 : Int32) (s2 : Int32) (M : mm_M) (o : mm_E) : Prop := ∀ z1 : Option Value, mm_Runs L xs d 247 (30, [some (.ref 84), z1], [.int s2, .int s1, .ref 84], M) o
noncomputable def mf_247_j30 (s1 : Int32) (s2 : Int32) (M : mm_M) : mm_O Unit := if ((M.1 84 43) + (1 : Int32)) = (8 : Int32) then (mm_B (mf_248 (mm_pi (mm_pi M 84 42 (s1 ||| s2)) 84 43 ((M.1 84 43) + (1 : Int32)))) (fun _ M1 => some (.inl (), M1))) else (some (.inl (), (mm_pi (mm_pi M 84 42 (s1 ||| s2)) 84 43 ((M.1 84 43) + (1 : Int32)))))
set_option maxRecDepth 8000 in
set_option maxHeartbeats 4000000 in
theorem ms_247_j30 {L : Nat} {xs : Nat → Int32} {d : Nat} (hd : 2 ≤ d) {s1 : Int32} {s2 : Int32} {M : mm_M} {q : (Unit ⊕ Nat) × mm_M} {o : mm_E} (h : mf_247_j30 s1 s2 M = some q) (hA : mm_A (mm_Kr mm_wv) q o) : mp_247_30 L xs d s1 s2 M o := by
  unfold mf_247_j30 at h
  obtain ⟨d, rfl⟩ := mm_d1 (n := 1) hd
  intro z1
  show mm_Runs L xs (d + 1) 247 (30, [some (.ref 84), z1], [.int s2, .int s1, .ref 84], M) o
  refine mm_Runs.seq (l := [(30, .ior, 1), (31, .putfield 412, 3), (34, .aload_n 0, 1), (35, .dup, 1), (36, .getfield 415, 3), (39, .iconst 1, 1), (40, .iadd, 1), (41, .putfield 415, 3), (44, .aload_n 0, 1), (45, .getfield 415, 3), (48, .bipush 8, 2)]) (S2 := (50, [some (.ref 84), z1], [.int (8 : Int32), .int ((M.1 84 43) + (1 : Int32))], (mm_pi (mm_pi M 84 42 (s1 ||| s2)) 84 43 ((M.1 84 43) + (1 : Int32))))) (by decide +kernel) (hO := mm_own_247) rfl ?_
  refine mm_R_ine (t := 57) rfl rfl rfl (fun hc => ?_) (fun hc => ?_)
  · replace h := mm_ip hc h
    refine mm_Runs.seq (l := [(53, .aload_n 0, 1)]) (S2 := (54, [some (.ref 84), z1], [.ref 84], (mm_pi (mm_pi M 84 42 (s1 ||| s2)) 84 43 ((M.1 84 43) + (1 : Int32))))) (by decide +kernel) (hO := mm_own_247) rfl ?_
    refine mm_R_call (v := mm_wv) h hA (k2 := 248) (as := [.ref 84]) (r := []) rfl (fun _ => rfl) (fun q hq o ho => ms_248 (by omega) hq ho) (fun _ M1 h => ?_)
    show mm_Runs L xs (d + 1) 247 (57, [some (.ref 84), z1], [], M1) o
    cases h
    exact mm_R_retv rfl rfl hA
  · replace h := mm_iq hc h
    cases h
    exact mm_R_retv rfl rfl hA
noncomputable def mf_247 (v1 : Int32) (M : mm_M) : mm_O Unit := if (M.1 84 13) = 0 then (mf_247_j30 (M.1 84 42) (mm_shl v1 (M.1 84 43)) M) else (mf_247_j30 (M.1 84 42) (mm_shl v1 ((7 : Int32) - (M.1 84 43))) M)
set_option maxRecDepth 8000 in
set_option maxHeartbeats 4000000 in
theorem ms_247 {L : Nat} {xs : Nat → Int32} {d : Nat} (hd : 2 ≤ d) {v1 : Int32} {M : mm_M} {q : (Unit ⊕ Nat) × mm_M} {o : mm_E} (h : mf_247 v1 M = some q) (hA : mm_A (mm_Kr mm_wv) q o) : mm_Runs L xs d 247 (0, mm_ent (mm_ml 247) [.ref 84, .int v1], [], M) o := by
  unfold mf_247 at h
  obtain ⟨d, rfl⟩ := mm_d1 (n := 1) hd
  show mm_Runs L xs (d + 1) 247 (0, [some (.ref 84), some (.int v1)], [], M) o
  refine mm_Runs.seq (l := [(0, .aload_n 0, 1), (1, .dup, 1), (2, .getfield 412, 3), (5, .aload_n 0, 1), (6, .getfield 178, 3)]) (S2 := (9, [some (.ref 84), some (.int v1)], [.int (M.1 84 13), .int (M.1 84 42), .ref 84], M)) (by decide +kernel) (hO := mm_own_247) rfl ?_
  refine mm_R_zeq (t := 24) rfl rfl rfl (fun hc => ?_) (fun hc => ?_)
  · replace h := mm_ip hc h
    refine mm_Runs.seq (l := [(24, .iload_n 1, 1), (25, .aload_n 0, 1), (26, .getfield 415, 3), (29, .ishl, 1)]) (S2 := (30, [some (.ref 84), some (.int v1)], [.int (mm_shl v1 (M.1 84 43)), .int (M.1 84 42), .ref 84], M)) (by decide +kernel) (hO := mm_own_247) rfl ?_
    exact (ms_247_j30 hd h hA : mp_247_30 L xs (d + 1) (M.1 84 42) (mm_shl v1 (M.1 84 43)) M o) (some (.int v1))
  · replace h := mm_iq hc h
    refine mm_Runs.seq (l := [(12, .iload_n 1, 1), (13, .bipush 7, 2), (15, .aload_n 0, 1), (16, .getfield 415, 3), (19, .isub, 1), (20, .ishl, 1), (21, .goto 9, 3)]) (S2 := (30, [some (.ref 84), some (.int v1)], [.int (mm_shl v1 ((7 : Int32) - (M.1 84 43))), .int (M.1 84 42), .ref 84], M)) (by decide +kernel) (hO := mm_own_247) rfl ?_
    exact (ms_247_j30 hd h hA : mp_247_30 L xs (d + 1) (M.1 84 42) (mm_shl v1 ((7 : Int32) - (M.1 84 43))) M o) (some (.int v1))
-- 249: PlainPacksModel.writeBits(JIZ)V (depth 3)
theorem mm_own_249 : mm_own 249 = 12 := rfl
def mp_249_3 (L : Nat) (xs : Nat → Int32) (d : Nat) (v1 : Int64) (v3 : Int32) (v4 : Int32) (v5 : Int32) (M : mm_M) (o : mm_E) : Prop := ∀ z2 : Option Value, mm_Runs L xs d 249 (3, [some (.ref 84), some (.long v1), z2, some (.int v3), some (.int v4), some (.int v5)], [], M) o
def mp_249_40 (L : Nat) (xs : Nat → Int32) (d : Nat) (M : mm_M) (o : mm_E) : Prop := ∀ z0 z1 z2 z3 z4 z5 : Option Value, mm_Runs L xs d 249 (40, [z0, z1, z2, z3, z4, z5], [], M) o
def mp_249_27 (L : Nat) (xs : Nat → Int32) (d : Nat) (v1 : Int64) (v3 : Int32) (v4 : Int32) (v5 : Int32) (s1 : Int64) (s2 : Int32) (M : mm_M) (o : mm_E) : Prop := ∀ z2 : Option Value, mm_Runs L xs d 249 (27, [some (.ref 84), some (.long v1), z2, some (.int v3), some (.int v4), some (.int v5)], [.int s2, .long s1, .ref 84], M) o
noncomputable def mf_249_j27 (v1 : Int64) (v3 : Int32) (v4 : Int32) (v5 : Int32) (s1 : Int64) (s2 : Int32) (M : mm_M) : mm_O ((Int32) ⊕ (Unit)) := mm_B (mf_247 ((mm_lshr s1 s2).toInt32 &&& (1 : Int32)) M) (fun _ M1 => some (.inl (.inl (v5 + (1 : Int32))), M1))
set_option maxRecDepth 8000 in
set_option maxHeartbeats 4000000 in
theorem ms_249_j27 {L : Nat} {xs : Nat → Int32} {d : Nat} (hd : 3 ≤ d) {v1 : Int64} {v3 : Int32} {v4 : Int32} {v5 : Int32} {s1 : Int64} {s2 : Int32} {M : mm_M} {q : (((Int32) ⊕ (Unit)) ⊕ Nat) × mm_M} {o : mm_E} (h : mf_249_j27 v1 v3 v4 v5 s1 s2 M = some q) (hA : mm_A (mm_K2 (fun s M o => mp_249_3 L xs (d) v1 v3 v4 s M o) (fun r M o => mp_249_40 L xs (d) M o)) q o) : mp_249_27 L xs d v1 v3 v4 v5 s1 s2 M o := by
  unfold mf_249_j27 at h
  obtain ⟨d, rfl⟩ := mm_d1 (n := 2) hd
  intro z2
  show mm_Runs L xs (d + 1) 249 (27, [some (.ref 84), some (.long v1), z2, some (.int v3), some (.int v4), some (.int v5)], [.int s2, .long s1, .ref 84], M) o
  refine mm_Runs.seq (l := [(27, .lshr, 1), (28, .l2i, 1), (29, .iconst 1, 1), (30, .iand, 1)]) (S2 := (31, [some (.ref 84), some (.long v1), z2, some (.int v3), some (.int v4), some (.int v5)], [.int ((mm_lshr s1 s2).toInt32 &&& (1 : Int32)), .ref 84], M)) (by decide +kernel) (hO := mm_own_249) rfl ?_
  refine mm_R_call (v := mm_wv) h hA (k2 := 247) (as := [.ref 84, .int ((mm_lshr s1 s2).toInt32 &&& (1 : Int32))]) (r := []) rfl (fun _ => rfl) (fun q hq o ho => ms_247 (by omega) hq ho) (fun _ M1 h => ?_)
  show mm_Runs L xs (d + 1) 249 (34, [some (.ref 84), some (.long v1), z2, some (.int v3), some (.int v4), some (.int v5)], [], M1) o
  refine mm_Runs.seq (l := [(34, .iinc 5 1, 3), (37, .goto (-34), 3)]) (S2 := (3, [some (.ref 84), some (.long v1), z2, some (.int v3), some (.int v4), some (.int (v5 + (1 : Int32)))], [], M1)) (by decide +kernel) (hO := mm_own_249) rfl ?_
  cases h
  exact (show mp_249_3 L xs (d + 1) v1 v3 v4 (v5 + (1 : Int32)) M1 o from hA) z2
noncomputable def mf_249_b3 (v1 : Int64) (v3 : Int32) (v4 : Int32) (v5 : Int32) (M : mm_M) : mm_O ((Int32) ⊕ (Unit)) := if v5 < v3 then (if v4 = 0 then (mf_249_j27 v1 v3 v4 v5 v1 v5 M) else (mf_249_j27 v1 v3 v4 v5 v1 ((v3 - (1 : Int32)) - v5) M)) else (some (.inl (.inr ()), M))
noncomputable def mf_249_L3 (v1 : Int64) (v3 : Int32) (v4 : Int32) (s : Int32) (M : mm_M) : mm_O (Unit) := mm_L (fun s M => mf_249_b3 v1 v3 v4 s M) s M
set_option maxRecDepth 8000 in
set_option maxHeartbeats 4000000 in
theorem ms_249_b3 {L : Nat} {xs : Nat → Int32} {d : Nat} (hd : 3 ≤ d) {v1 : Int64} {v3 : Int32} {v4 : Int32} {v5 : Int32} {M : mm_M} {q : (((Int32) ⊕ (Unit)) ⊕ Nat) × mm_M} {o : mm_E} (h : mf_249_b3 v1 v3 v4 v5 M = some q) (hA : mm_A (mm_K2 (fun s M o => mp_249_3 L xs (d) v1 v3 v4 s M o) (fun r M o => mp_249_40 L xs (d) M o)) q o) : mp_249_3 L xs d v1 v3 v4 v5 M o := by
  unfold mf_249_b3 at h
  obtain ⟨d, rfl⟩ := mm_d1 (n := 2) hd
  intro z2
  show mm_Runs L xs (d + 1) 249 (3, [some (.ref 84), some (.long v1), z2, some (.int v3), some (.int v4), some (.int v5)], [], M) o
  refine mm_Runs.seq (l := [(3, .iload 5, 2), (5, .iload_n 3, 1)]) (S2 := (6, [some (.ref 84), some (.long v1), z2, some (.int v3), some (.int v4), some (.int v5)], [.int v3, .int v5], M)) (by decide +kernel) (hO := mm_own_249) rfl ?_
  refine mm_R_ige (t := 40) rfl rfl rfl (fun hc => ?_) (fun hc => ?_)
  · replace h := mm_ip hc h
    refine mm_Runs.seq (l := [(9, .aload_n 0, 1), (10, .lload_n 1, 1), (11, .iload 4, 2)]) (S2 := (13, [some (.ref 84), some (.long v1), z2, some (.int v3), some (.int v4), some (.int v5)], [.int v4, .long v1, .ref 84], M)) (by decide +kernel) (hO := mm_own_249) rfl ?_
    refine mm_R_zeq (t := 25) rfl rfl rfl (fun hc => ?_) (fun hc => ?_)
    · replace h := mm_ip hc h
      refine mm_Runs.seq (l := [(25, .iload 5, 2)]) (S2 := (27, [some (.ref 84), some (.long v1), z2, some (.int v3), some (.int v4), some (.int v5)], [.int v5, .long v1, .ref 84], M)) (by decide +kernel) (hO := mm_own_249) rfl ?_
      exact (ms_249_j27 hd h hA : mp_249_27 L xs (d + 1) v1 v3 v4 v5 v1 v5 M o) z2
    · replace h := mm_iq hc h
      refine mm_Runs.seq (l := [(16, .iload_n 3, 1), (17, .iconst 1, 1), (18, .isub, 1), (19, .iload 5, 2), (21, .isub, 1), (22, .goto 5, 3)]) (S2 := (27, [some (.ref 84), some (.long v1), z2, some (.int v3), some (.int v4), some (.int v5)], [.int ((v3 - (1 : Int32)) - v5), .long v1, .ref 84], M)) (by decide +kernel) (hO := mm_own_249) rfl ?_
      exact (ms_249_j27 hd h hA : mp_249_27 L xs (d + 1) v1 v3 v4 v5 v1 ((v3 - (1 : Int32)) - v5) M o) z2
  · replace h := mm_iq hc h
    cases h
    exact (show mp_249_40 L xs (d + 1) M o from hA) (some (.ref 84)) (some (.long v1)) z2 (some (.int v3)) (some (.int v4)) (some (.int v5))
theorem ms_249_L3 {L : Nat} {xs : Nat → Int32} {d : Nat} (hd : 3 ≤ d) {v1 : Int64} {v3 : Int32} {v4 : Int32} {v5 : Int32} {β : Type} {K : β → mm_M → mm_E → Prop} {F : (Unit) → mm_M → mm_O β} {M : mm_M} {q : (β ⊕ Nat) × mm_M} {o : mm_E} (h : mm_B (mf_249_L3 v1 v3 v4 v5 M) F = some q) (hA : mm_A K q o) (hx : ∀ (r : (Unit)) (M2 : mm_M), F r M2 = some q → (fun r M o => mp_249_40 L xs (d) M o) r M2 o) : mp_249_3 L xs d v1 v3 v4 v5 M o := mm_R_loop (s := v5) (M := M) (P := (fun s M o => mp_249_3 L xs (d) v1 v3 v4 s M o)) (X := (fun r M o => mp_249_40 L xs (d) M o)) h hA (fun s M q hq hA => ms_249_b3 hd hq hA) hx
noncomputable def mf_249 (v1 : Int64) (v3 : Int32) (v4 : Int32) (M : mm_M) : mm_O Unit := mm_B (mf_249_L3 v1 v3 v4 (0 : Int32) M) (fun r2 M1 => some (.inl (), M1))
set_option maxRecDepth 8000 in
set_option maxHeartbeats 4000000 in
theorem ms_249 {L : Nat} {xs : Nat → Int32} {d : Nat} (hd : 3 ≤ d) {v1 : Int64} {v3 : Int32} {v4 : Int32} {M : mm_M} {q : (Unit ⊕ Nat) × mm_M} {o : mm_E} (h : mf_249 v1 v3 v4 M = some q) (hA : mm_A (mm_Kr mm_wv) q o) : mm_Runs L xs d 249 (0, mm_ent (mm_ml 249) [.ref 84, .long v1, .int v3, .int v4], [], M) o := by
  unfold mf_249 at h
  obtain ⟨d, rfl⟩ := mm_d1 (n := 2) hd
  show mm_Runs L xs (d + 1) 249 (0, [some (.ref 84), some (.long v1), none, some (.int v3), some (.int v4), none], [], M) o
  refine mm_Runs.seq (l := [(0, .iconst 0, 1), (1, .istore 5, 2)]) (S2 := (3, [some (.ref 84), some (.long v1), none, some (.int v3), some (.int v4), some (.int (0 : Int32))], [], M)) (by decide +kernel) (hO := mm_own_249) rfl ?_
  have hp : mp_249_3 L xs (d + 1) v1 v3 v4 (0 : Int32) M o := by
    refine ms_249_L3 hd h hA (fun r2 M1 h => ?_)
    intro y3 y4 y5 y6 y7 y8
    show mm_Runs L xs (d + 1) 249 (40, [y3, y4, y5, y6, y7, y8], [], M1) o
    cases h
    exact mm_R_retv rfl rfl hA
  exact hp none
-- 250: PlainPacksModel.look(IIII)V (depth 0)
theorem mm_own_250 : mm_own 250 = 12 := rfl
def mp_250_31 (L : Nat) (xs : Nat → Int32) (d : Nat) (v1 : Int32) (v3 : Int32) (v5 : Int32) (v6 : Int32) (M : mm_M) (o : mm_E) : Prop := ∀ z2 z4 z7 : Option Value, mm_Runs L xs d 250 (31, [some (.ref 84), some (.int v1), z2, some (.int v3), z4, some (.int v5), some (.int v6), z7], [], M) o
def mp_250_119 (L : Nat) (xs : Nat → Int32) (d : Nat) (M : mm_M) (o : mm_E) : Prop := ∀ z0 z1 z2 z3 z4 z5 z6 z7 : Option Value, mm_Runs L xs d 250 (119, [z0, z1, z2, z3, z4, z5, z6, z7], [], M) o
def mp_250_55 (L : Nat) (xs : Nat → Int32) (d : Nat) (v1 : Int32) (v3 : Int32) (v5 : Int32) (v6 : Int32) (v7 : Int32) (M : mm_M) (o : mm_E) : Prop := ∀ z2 z4 : Option Value, mm_Runs L xs d 250 (55, [some (.ref 84), some (.int v1), z2, some (.int v3), z4, some (.int v5), some (.int v6), some (.int v7)], [], M) o
def mp_250_92 (L : Nat) (xs : Nat → Int32) (d : Nat) (v1 : Int32) (v3 : Int32) (v5 : Int32) (v6 : Int32) (v7 : Int32) (M : mm_M) (o : mm_E) : Prop := ∀ z2 z4 : Option Value, mm_Runs L xs d 250 (92, [some (.ref 84), some (.int v1), z2, some (.int v3), z4, some (.int v5), some (.int v6), some (.int v7)], [], M) o
noncomputable def mf_250_b55 (v1 : Int32) (v3 : Int32) (v5 : Int32) (v6 : Int32) (v7 : Int32) (M : mm_M) : mm_O ((Int32) ⊕ (Int32)) := if v7 < v5 then (if mm_in (v1 + v7) 10000 then if mm_in ((v1 + v7) - v6) 10000 then if (M.1 85 (v1 + v7).toNatClampNeg) = (M.1 85 ((v1 + v7) - v6).toNatClampNeg) then (some (.inl (.inl (v7 + (1 : Int32))), M)) else (some (.inl (.inr v7), M)) else none else none) else (some (.inl (.inr v7), M))
noncomputable def mf_250_L55 (v1 : Int32) (v3 : Int32) (v5 : Int32) (v6 : Int32) (s : Int32) (M : mm_M) : mm_O (Int32) := mm_L (fun s M => mf_250_b55 v1 v3 v5 v6 s M) s M
set_option maxRecDepth 8000 in
set_option maxHeartbeats 4000000 in
theorem ms_250_b55 {L : Nat} {xs : Nat → Int32} {d : Nat} (hd : 0 ≤ d) {v1 : Int32} {v3 : Int32} {v5 : Int32} {v6 : Int32} {v7 : Int32} {M : mm_M} {q : (((Int32) ⊕ (Int32)) ⊕ Nat) × mm_M} {o : mm_E} (h : mf_250_b55 v1 v3 v5 v6 v7 M = some q) (hA : mm_A (mm_K2 (fun s M o => mp_250_55 L xs (d) v1 v3 v5 v6 s M o) (fun r M o => mp_250_92 L xs (d) v1 v3 v5 v6 r M o)) q o) : mp_250_55 L xs d v1 v3 v5 v6 v7 M o := by
  unfold mf_250_b55 at h
  intro z2 z4
  show mm_Runs L xs (d) 250 (55, [some (.ref 84), some (.int v1), z2, some (.int v3), z4, some (.int v5), some (.int v6), some (.int v7)], [], M) o
  refine mm_Runs.seq (l := [(55, .iload 7, 2), (57, .iload 5, 2)]) (S2 := (59, [some (.ref 84), some (.int v1), z2, some (.int v3), z4, some (.int v5), some (.int v6), some (.int v7)], [.int v5, .int v7], M)) (by decide +kernel) (hO := mm_own_250) rfl ?_
  refine mm_R_ige (t := 92) rfl rfl rfl (fun hc => ?_) (fun hc => ?_)
  · replace h := mm_ip hc h
    refine mm_Runs.seq (l := [(62, .aload_n 0, 1), (63, .getfield 7, 3), (66, .iload_n 1, 1), (67, .iload 7, 2), (69, .iadd, 1)]) (S2 := (70, [some (.ref 84), some (.int v1), z2, some (.int v3), z4, some (.int v5), some (.int v6), some (.int v7)], [.int (v1 + v7), .ref 85], M)) (by decide +kernel) (hO := mm_own_250) rfl ?_
    obtain ⟨hb, h⟩ := mm_gd h
    refine mm_R_iald rfl rfl hb ?_
    refine mm_Runs.seq (l := [(71, .aload_n 0, 1), (72, .getfield 7, 3), (75, .iload_n 1, 1), (76, .iload 7, 2), (78, .iadd, 1), (79, .iload 6, 2), (81, .isub, 1)]) (S2 := (82, [some (.ref 84), some (.int v1), z2, some (.int v3), z4, some (.int v5), some (.int v6), some (.int v7)], [.int ((v1 + v7) - v6), .ref 85, .int (M.1 85 (v1 + v7).toNatClampNeg)], M)) (by decide +kernel) (hO := mm_own_250) rfl ?_
    obtain ⟨hb, h⟩ := mm_gd h
    refine mm_R_iald rfl rfl hb ?_
    refine mm_R_ine (t := 92) rfl rfl rfl (fun hc => ?_) (fun hc => ?_)
    · replace h := mm_ip hc h
      refine mm_Runs.seq (l := [(86, .iinc 7 1, 3), (89, .goto (-34), 3)]) (S2 := (55, [some (.ref 84), some (.int v1), z2, some (.int v3), z4, some (.int v5), some (.int v6), some (.int (v7 + (1 : Int32)))], [], M)) (by decide +kernel) (hO := mm_own_250) rfl ?_
      cases h
      exact (show mp_250_55 L xs (d) v1 v3 v5 v6 (v7 + (1 : Int32)) M o from hA) z2 z4
    · replace h := mm_iq hc h
      cases h
      exact (show mp_250_92 L xs (d) v1 v3 v5 v6 v7 M o from hA) z2 z4
  · replace h := mm_iq hc h
    cases h
    exact (show mp_250_92 L xs (d) v1 v3 v5 v6 v7 M o from hA) z2 z4
theorem ms_250_L55 {L : Nat} {xs : Nat → Int32} {d : Nat} (hd : 0 ≤ d) {v1 : Int32} {v3 : Int32} {v5 : Int32} {v6 : Int32} {v7 : Int32} {β : Type} {K : β → mm_M → mm_E → Prop} {F : (Int32) → mm_M → mm_O β} {M : mm_M} {q : (β ⊕ Nat) × mm_M} {o : mm_E} (h : mm_B (mf_250_L55 v1 v3 v5 v6 v7 M) F = some q) (hA : mm_A K q o) (hx : ∀ (r : (Int32)) (M2 : mm_M), F r M2 = some q → (fun r M o => mp_250_92 L xs (d) v1 v3 v5 v6 r M o) r M2 o) : mp_250_55 L xs d v1 v3 v5 v6 v7 M o := mm_R_loop (s := v7) (M := M) (P := (fun s M o => mp_250_55 L xs (d) v1 v3 v5 v6 s M o)) (X := (fun r M o => mp_250_92 L xs (d) v1 v3 v5 v6 r M o)) h hA (fun s M q hq hA => ms_250_b55 hd hq hA) hx
noncomputable def mf_250_j92 (v1 : Int32) (v3 : Int32) (v5 : Int32) (v6 : Int32) (v7 : Int32) (M : mm_M) : mm_O ((Int32) ⊕ (Unit)) := if (M.1 84 44) < v7 then (some (.inl (.inl (v6 + (1 : Int32))), (mm_pi (mm_pi M 84 44 v7) 84 45 v6))) else (some (.inl (.inl (v6 + (1 : Int32))), M))
set_option maxRecDepth 8000 in
set_option maxHeartbeats 4000000 in
theorem ms_250_j92 {L : Nat} {xs : Nat → Int32} {d : Nat} (hd : 0 ≤ d) {v1 : Int32} {v3 : Int32} {v5 : Int32} {v6 : Int32} {v7 : Int32} {M : mm_M} {q : (((Int32) ⊕ (Unit)) ⊕ Nat) × mm_M} {o : mm_E} (h : mf_250_j92 v1 v3 v5 v6 v7 M = some q) (hA : mm_A (mm_K2 (fun s M o => mp_250_31 L xs (d) v1 v3 v5 s M o) (fun r M o => mp_250_119 L xs (d) M o)) q o) : mp_250_92 L xs d v1 v3 v5 v6 v7 M o := by
  unfold mf_250_j92 at h
  intro z2 z4
  show mm_Runs L xs (d) 250 (92, [some (.ref 84), some (.int v1), z2, some (.int v3), z4, some (.int v5), some (.int v6), some (.int v7)], [], M) o
  refine mm_Runs.seq (l := [(92, .iload 7, 2), (94, .aload_n 0, 1), (95, .getfield 424, 3)]) (S2 := (98, [some (.ref 84), some (.int v1), z2, some (.int v3), z4, some (.int v5), some (.int v6), some (.int v7)], [.int (M.1 84 44), .int v7], M)) (by decide +kernel) (hO := mm_own_250) rfl ?_
  refine mm_R_ile (t := 113) rfl rfl rfl (fun hc => ?_) (fun hc => ?_)
  · replace h := mm_ip hc h
    refine mm_Runs.seq (l := [(101, .aload_n 0, 1), (102, .iload 7, 2), (104, .putfield 424, 3), (107, .aload_n 0, 1), (108, .iload 6, 2), (110, .putfield 427, 3), (113, .iinc 6 1, 3), (116, .goto (-85), 3)]) (S2 := (31, [some (.ref 84), some (.int v1), z2, some (.int v3), z4, some (.int v5), some (.int (v6 + (1 : Int32))), some (.int v7)], [], (mm_pi (mm_pi M 84 44 v7) 84 45 v6))) (by decide +kernel) (hO := mm_own_250) rfl ?_
    cases h
    exact (show mp_250_31 L xs (d) v1 v3 v5 (v6 + (1 : Int32)) (mm_pi (mm_pi M 84 44 v7) 84 45 v6) o from hA) z2 z4 (some (.int v7))
  · replace h := mm_iq hc h
    refine mm_Runs.seq (l := [(113, .iinc 6 1, 3), (116, .goto (-85), 3)]) (S2 := (31, [some (.ref 84), some (.int v1), z2, some (.int v3), z4, some (.int v5), some (.int (v6 + (1 : Int32))), some (.int v7)], [], M)) (by decide +kernel) (hO := mm_own_250) rfl ?_
    cases h
    exact (show mp_250_31 L xs (d) v1 v3 v5 (v6 + (1 : Int32)) M o from hA) z2 z4 (some (.int v7))
noncomputable def mf_250_b31 (v1 : Int32) (v3 : Int32) (v5 : Int32) (v6 : Int32) (M : mm_M) : mm_O ((Int32) ⊕ (Unit)) := if v3 < v6 then (some (.inl (.inr ()), M)) else (if v1 < v6 then (some (.inl (.inr ()), M)) else (if (M.1 84 44) < v5 then (mm_B (mf_250_L55 v1 v3 v5 v6 (0 : Int32) M) (fun r2 M1 => mf_250_j92 v1 v3 v5 v6 r2 M1)) else (some (.inl (.inr ()), M))))
noncomputable def mf_250_L31 (v1 : Int32) (v3 : Int32) (v5 : Int32) (s : Int32) (M : mm_M) : mm_O (Unit) := mm_L (fun s M => mf_250_b31 v1 v3 v5 s M) s M
set_option maxRecDepth 8000 in
set_option maxHeartbeats 4000000 in
theorem ms_250_b31 {L : Nat} {xs : Nat → Int32} {d : Nat} (hd : 0 ≤ d) {v1 : Int32} {v3 : Int32} {v5 : Int32} {v6 : Int32} {M : mm_M} {q : (((Int32) ⊕ (Unit)) ⊕ Nat) × mm_M} {o : mm_E} (h : mf_250_b31 v1 v3 v5 v6 M = some q) (hA : mm_A (mm_K2 (fun s M o => mp_250_31 L xs (d) v1 v3 v5 s M o) (fun r M o => mp_250_119 L xs (d) M o)) q o) : mp_250_31 L xs d v1 v3 v5 v6 M o := by
  unfold mf_250_b31 at h
  intro z2 z4 z7
  show mm_Runs L xs (d) 250 (31, [some (.ref 84), some (.int v1), z2, some (.int v3), z4, some (.int v5), some (.int v6), z7], [], M) o
  refine mm_Runs.seq (l := [(31, .iload 6, 2), (33, .iload_n 3, 1)]) (S2 := (34, [some (.ref 84), some (.int v1), z2, some (.int v3), z4, some (.int v5), some (.int v6), z7], [.int v3, .int v6], M)) (by decide +kernel) (hO := mm_own_250) rfl ?_
  refine mm_R_igt (t := 119) rfl rfl rfl (fun hc => ?_) (fun hc => ?_)
  · replace h := mm_ip hc h
    cases h
    exact (show mp_250_119 L xs (d) M o from hA) (some (.ref 84)) (some (.int v1)) z2 (some (.int v3)) z4 (some (.int v5)) (some (.int v6)) z7
  · replace h := mm_iq hc h
    refine mm_Runs.seq (l := [(37, .iload 6, 2), (39, .iload_n 1, 1)]) (S2 := (40, [some (.ref 84), some (.int v1), z2, some (.int v3), z4, some (.int v5), some (.int v6), z7], [.int v1, .int v6], M)) (by decide +kernel) (hO := mm_own_250) rfl ?_
    refine mm_R_igt (t := 119) rfl rfl rfl (fun hc => ?_) (fun hc => ?_)
    · replace h := mm_ip hc h
      cases h
      exact (show mp_250_119 L xs (d) M o from hA) (some (.ref 84)) (some (.int v1)) z2 (some (.int v3)) z4 (some (.int v5)) (some (.int v6)) z7
    · replace h := mm_iq hc h
      refine mm_Runs.seq (l := [(43, .aload_n 0, 1), (44, .getfield 424, 3), (47, .iload 5, 2)]) (S2 := (49, [some (.ref 84), some (.int v1), z2, some (.int v3), z4, some (.int v5), some (.int v6), z7], [.int v5, .int (M.1 84 44)], M)) (by decide +kernel) (hO := mm_own_250) rfl ?_
      refine mm_R_ige (t := 119) rfl rfl rfl (fun hc => ?_) (fun hc => ?_)
      · replace h := mm_ip hc h
        refine mm_Runs.seq (l := [(52, .iconst 0, 1), (53, .istore 7, 2)]) (S2 := (55, [some (.ref 84), some (.int v1), z2, some (.int v3), z4, some (.int v5), some (.int v6), some (.int (0 : Int32))], [], M)) (by decide +kernel) (hO := mm_own_250) rfl ?_
        have hp : mp_250_55 L xs (d) v1 v3 v5 v6 (0 : Int32) M o := by
          refine ms_250_L55 hd h hA (fun r2 M1 h => ?_)
          intro y3 y4
          show mm_Runs L xs (d) 250 (92, [some (.ref 84), some (.int v1), y3, some (.int v3), y4, some (.int v5), some (.int v6), some (.int r2)], [], M1) o
          exact (ms_250_j92 hd h hA : mp_250_92 L xs (d) v1 v3 v5 v6 r2 M1 o) y3 y4
        exact hp z2 z4
      · replace h := mm_iq hc h
        cases h
        exact (show mp_250_119 L xs (d) M o from hA) (some (.ref 84)) (some (.int v1)) z2 (some (.int v3)) z4 (some (.int v5)) (some (.int v6)) z7
theorem ms_250_L31 {L : Nat} {xs : Nat → Int32} {d : Nat} (hd : 0 ≤ d) {v1 : Int32} {v3 : Int32} {v5 : Int32} {v6 : Int32} {β : Type} {K : β → mm_M → mm_E → Prop} {F : (Unit) → mm_M → mm_O β} {M : mm_M} {q : (β ⊕ Nat) × mm_M} {o : mm_E} (h : mm_B (mf_250_L31 v1 v3 v5 v6 M) F = some q) (hA : mm_A K q o) (hx : ∀ (r : (Unit)) (M2 : mm_M), F r M2 = some q → (fun r M o => mp_250_119 L xs (d) M o) r M2 o) : mp_250_31 L xs d v1 v3 v5 v6 M o := mm_R_loop (s := v6) (M := M) (P := (fun s M o => mp_250_31 L xs (d) v1 v3 v5 s M o)) (X := (fun r M o => mp_250_119 L xs (d) M o)) h hA (fun s M q hq hA => ms_250_b31 hd hq hA) hx
noncomputable def mf_250 (v1 : Int32) (v2 : Int32) (v3 : Int32) (v4 : Int32) (M : mm_M) : mm_O Unit := if (v4 - v1) < v2 then (mm_B (mf_250_L31 v1 v3 (v4 - v1) (1 : Int32) (mm_pi (mm_pi M 84 44 (0 : Int32)) 84 45 (0 : Int32))) (fun r2 M1 => some (.inl (), M1))) else (mm_B (mf_250_L31 v1 v3 v2 (1 : Int32) (mm_pi (mm_pi M 84 44 (0 : Int32)) 84 45 (0 : Int32))) (fun r12 M11 => some (.inl (), M11)))
set_option maxRecDepth 8000 in
set_option maxHeartbeats 4000000 in
theorem ms_250 {L : Nat} {xs : Nat → Int32} {d : Nat} (hd : 0 ≤ d) {v1 : Int32} {v2 : Int32} {v3 : Int32} {v4 : Int32} {M : mm_M} {q : (Unit ⊕ Nat) × mm_M} {o : mm_E} (h : mf_250 v1 v2 v3 v4 M = some q) (hA : mm_A (mm_Kr mm_wv) q o) : mm_Runs L xs d 250 (0, mm_ent (mm_ml 250) [.ref 84, .int v1, .int v2, .int v3, .int v4], [], M) o := by
  unfold mf_250 at h
  show mm_Runs L xs (d) 250 (0, [some (.ref 84), some (.int v1), some (.int v2), some (.int v3), some (.int v4), none, none, none], [], M) o
  refine mm_Runs.seq (l := [(0, .aload_n 0, 1), (1, .iconst 0, 1), (2, .putfield 424, 3), (5, .aload_n 0, 1), (6, .iconst 0, 1), (7, .putfield 427, 3), (10, .iload 4, 2), (12, .iload_n 1, 1), (13, .isub, 1), (14, .iload_n 2, 1)]) (S2 := (15, [some (.ref 84), some (.int v1), some (.int v2), some (.int v3), some (.int v4), none, none, none], [.int v2, .int (v4 - v1)], (mm_pi (mm_pi M 84 44 (0 : Int32)) 84 45 (0 : Int32)))) (by decide +kernel) (hO := mm_own_250) rfl ?_
  refine mm_R_ige (t := 25) rfl rfl rfl (fun hc => ?_) (fun hc => ?_)
  · replace h := mm_ip hc h
    refine mm_Runs.seq (l := [(18, .iload 4, 2), (20, .iload_n 1, 1), (21, .isub, 1), (22, .goto 4, 3), (26, .istore 5, 2), (28, .iconst 1, 1), (29, .istore 6, 2)]) (S2 := (31, [some (.ref 84), some (.int v1), some (.int v2), some (.int v3), some (.int v4), some (.int (v4 - v1)), some (.int (1 : Int32)), none], [], (mm_pi (mm_pi M 84 44 (0 : Int32)) 84 45 (0 : Int32)))) (by decide +kernel) (hO := mm_own_250) rfl ?_
    have hp : mp_250_31 L xs (d) v1 v3 (v4 - v1) (1 : Int32) (mm_pi (mm_pi M 84 44 (0 : Int32)) 84 45 (0 : Int32)) o := by
      refine ms_250_L31 hd h hA (fun r2 M1 h => ?_)
      intro y3 y4 y5 y6 y7 y8 y9 y10
      show mm_Runs L xs (d) 250 (119, [y3, y4, y5, y6, y7, y8, y9, y10], [], M1) o
      cases h
      exact mm_R_retv rfl rfl hA
    exact hp (some (.int v2)) (some (.int v4)) none
  · replace h := mm_iq hc h
    refine mm_Runs.seq (l := [(25, .iload_n 2, 1), (26, .istore 5, 2), (28, .iconst 1, 1), (29, .istore 6, 2)]) (S2 := (31, [some (.ref 84), some (.int v1), some (.int v2), some (.int v3), some (.int v4), some (.int v2), some (.int (1 : Int32)), none], [], (mm_pi (mm_pi M 84 44 (0 : Int32)) 84 45 (0 : Int32)))) (by decide +kernel) (hO := mm_own_250) rfl ?_
    have hp : mp_250_31 L xs (d) v1 v3 v2 (1 : Int32) (mm_pi (mm_pi M 84 44 (0 : Int32)) 84 45 (0 : Int32)) o := by
      refine ms_250_L31 hd h hA (fun r12 M11 h => ?_)
      intro y13 y14 y15 y16 y17 y18 y19 y20
      show mm_Runs L xs (d) 250 (119, [y13, y14, y15, y16, y17, y18, y19, y20], [], M11) o
      cases h
      exact mm_R_retv rfl rfl hA
    exact hp (some (.int v2)) (some (.int v4)) none
-- 253: PlainPacksModel.writeLetter(I)V (depth 4)
theorem mm_own_253 : mm_own 253 = 12 := rfl
noncomputable def mf_253 (v1 : Int32) (M : mm_M) : mm_O Unit := if mm_in v1 2100 then if mm_in v1 2100 then mm_B (mf_249 (M.1 88 v1.toNatClampNeg).toInt64 (M.1 87 v1.toNatClampNeg) (1 : Int32) M) (fun _ M1 => some (.inl (), M1)) else none else none
set_option maxRecDepth 8000 in
set_option maxHeartbeats 4000000 in
theorem ms_253 {L : Nat} {xs : Nat → Int32} {d : Nat} (hd : 4 ≤ d) {v1 : Int32} {M : mm_M} {q : (Unit ⊕ Nat) × mm_M} {o : mm_E} (h : mf_253 v1 M = some q) (hA : mm_A (mm_Kr mm_wv) q o) : mm_Runs L xs d 253 (0, mm_ent (mm_ml 253) [.ref 84, .int v1], [], M) o := by
  unfold mf_253 at h
  obtain ⟨d, rfl⟩ := mm_d1 (n := 3) hd
  show mm_Runs L xs (d + 1) 253 (0, [some (.ref 84), some (.int v1)], [], M) o
  refine mm_Runs.seq (l := [(0, .aload_n 0, 1), (1, .aload_n 0, 1), (2, .getfield 19, 3), (5, .iload_n 1, 1)]) (S2 := (6, [some (.ref 84), some (.int v1)], [.int v1, .ref 88, .ref 84], M)) (by decide +kernel) (hO := mm_own_253) rfl ?_
  obtain ⟨hb, h⟩ := mm_gd h
  refine mm_R_iald rfl rfl hb ?_
  refine mm_Runs.seq (l := [(7, .i2l, 1), (8, .aload_n 0, 1), (9, .getfield 16, 3), (12, .iload_n 1, 1)]) (S2 := (13, [some (.ref 84), some (.int v1)], [.int v1, .ref 87, .long (M.1 88 v1.toNatClampNeg).toInt64, .ref 84], M)) (by decide +kernel) (hO := mm_own_253) rfl ?_
  obtain ⟨hb, h⟩ := mm_gd h
  refine mm_R_iald rfl rfl hb ?_
  refine mm_Runs.seq (l := [(14, .iconst 1, 1)]) (S2 := (15, [some (.ref 84), some (.int v1)], [.int (1 : Int32), .int (M.1 87 v1.toNatClampNeg), .long (M.1 88 v1.toNatClampNeg).toInt64, .ref 84], M)) (by decide +kernel) (hO := mm_own_253) rfl ?_
  refine mm_R_call (v := mm_wv) h hA (k2 := 249) (as := [.ref 84, .long (M.1 88 v1.toNatClampNeg).toInt64, .int (M.1 87 v1.toNatClampNeg), .int (1 : Int32)]) (r := []) rfl (fun _ => rfl) (fun q hq o ho => ms_249 (by omega) hq ho) (fun _ M1 h => ?_)
  show mm_Runs L xs (d + 1) 253 (18, [some (.ref 84), some (.int v1)], [], M1) o
  cases h
  exact mm_R_retv rfl rfl hA
-- 255: PlainPacksModel.leastLength(I)I (depth 0)
theorem mm_own_255 : mm_own 255 = 12 := rfl
noncomputable def mf_255 (v0 : Int32) (M : mm_M) : mm_O Int32 := if v0 < (265 : Int32) then (some (.inl (v0 - (254 : Int32)), M)) else (some (.inl ((3 : Int32) + (mm_shl ((4 : Int32) + (mm_rem (v0 - (265 : Int32)) (4 : Int32))) ((v0 - (261 : Int32)) / (4 : Int32)))), M))
set_option maxRecDepth 8000 in
set_option maxHeartbeats 4000000 in
theorem ms_255 {L : Nat} {xs : Nat → Int32} {d : Nat} (hd : 0 ≤ d) {v0 : Int32} {M : mm_M} {q : (Int32 ⊕ Nat) × mm_M} {o : mm_E} (h : mf_255 v0 M = some q) (hA : mm_A (mm_Kr mm_wi) q o) : mm_Runs L xs d 255 (0, mm_ent (mm_ml 255) [.int v0], [], M) o := by
  unfold mf_255 at h
  show mm_Runs L xs (d) 255 (0, [some (.int v0)], [], M) o
  refine mm_Runs.seq (l := [(0, .iload_n 0, 1), (1, .sipush 265, 3)]) (S2 := (4, [some (.int v0)], [.int (265 : Int32), .int v0], M)) (by decide +kernel) (hO := mm_own_255) rfl ?_
  refine mm_R_ige (t := 15) rfl rfl rfl (fun hc => ?_) (fun hc => ?_)
  · replace h := mm_ip hc h
    refine mm_Runs.seq (l := [(7, .iload_n 0, 1), (8, .sipush 254, 3), (11, .isub, 1), (12, .goto 22, 3)]) (S2 := (34, [some (.int v0)], [.int (v0 - (254 : Int32))], M)) (by decide +kernel) (hO := mm_own_255) rfl ?_
    cases h
    exact mm_R_reti rfl rfl hA
  · replace h := mm_iq hc h
    refine mm_Runs.seq (l := [(15, .iconst 3, 1), (16, .iconst 4, 1), (17, .iload_n 0, 1), (18, .sipush 265, 3), (21, .isub, 1), (22, .iconst 4, 1), (23, .irem, 1), (24, .iadd, 1), (25, .iload_n 0, 1), (26, .sipush 261, 3), (29, .isub, 1), (30, .iconst 4, 1), (31, .idiv, 1), (32, .ishl, 1), (33, .iadd, 1)]) (S2 := (34, [some (.int v0)], [.int ((3 : Int32) + (mm_shl ((4 : Int32) + (mm_rem (v0 - (265 : Int32)) (4 : Int32))) ((v0 - (261 : Int32)) / (4 : Int32))))], M)) (by decide +kernel) (hO := mm_own_255) rfl ?_
    cases h
    exact mm_R_reti rfl rfl hA
-- 254: PlainPacksModel.letterOf(I)I (depth 1)
theorem mm_own_254 : mm_own 254 = 12 := rfl
def mp_254_15 (L : Nat) (xs : Nat → Int32) (d : Nat) (v0 : Int32) (v1 : Int32) (M : mm_M) (o : mm_E) : Prop := mm_Runs L xs d 254 (15, [some (.int v0), some (.int v1)], [], M) o
def mp_254_38 (L : Nat) (xs : Nat → Int32) (d : Nat) (v1 : Int32) (M : mm_M) (o : mm_E) : Prop := ∀ z0 : Option Value, mm_Runs L xs d 254 (38, [z0, some (.int v1)], [], M) o
noncomputable def mf_254_b15 (v0 : Int32) (v1 : Int32) (M : mm_M) : mm_O ((Int32) ⊕ (Int32)) := if v1 < (284 : Int32) then (mm_B (mf_255 (v1 + (1 : Int32)) M) (fun r1 M2 => if v0 < r1 then (some (.inl (.inr v1), M2)) else (some (.inl (.inl (v1 + (1 : Int32))), M2)))) else (some (.inl (.inr v1), M))
noncomputable def mf_254_L15 (v0 : Int32) (s : Int32) (M : mm_M) : mm_O (Int32) := mm_L (fun s M => mf_254_b15 v0 s M) s M
set_option maxRecDepth 8000 in
set_option maxHeartbeats 4000000 in
theorem ms_254_b15 {L : Nat} {xs : Nat → Int32} {d : Nat} (hd : 1 ≤ d) {v0 : Int32} {v1 : Int32} {M : mm_M} {q : (((Int32) ⊕ (Int32)) ⊕ Nat) × mm_M} {o : mm_E} (h : mf_254_b15 v0 v1 M = some q) (hA : mm_A (mm_K2 (fun s M o => mp_254_15 L xs (d) v0 s M o) (fun r M o => mp_254_38 L xs (d) r M o)) q o) : mp_254_15 L xs d v0 v1 M o := by
  unfold mf_254_b15 at h
  obtain ⟨d, rfl⟩ := mm_d1 (n := 0) hd
  show mm_Runs L xs (d + 1) 254 (15, [some (.int v0), some (.int v1)], [], M) o
  refine mm_Runs.seq (l := [(15, .iload_n 1, 1), (16, .sipush 284, 3)]) (S2 := (19, [some (.int v0), some (.int v1)], [.int (284 : Int32), .int v1], M)) (by decide +kernel) (hO := mm_own_254) rfl ?_
  refine mm_R_ige (t := 38) rfl rfl rfl (fun hc => ?_) (fun hc => ?_)
  · replace h := mm_ip hc h
    refine mm_Runs.seq (l := [(22, .iload_n 1, 1), (23, .iconst 1, 1), (24, .iadd, 1)]) (S2 := (25, [some (.int v0), some (.int v1)], [.int (v1 + (1 : Int32))], M)) (by decide +kernel) (hO := mm_own_254) rfl ?_
    refine mm_R_call (v := mm_wi) h hA (k2 := 255) (as := [.int (v1 + (1 : Int32))]) (r := []) rfl (fun _ => rfl) (fun q hq o ho => ms_255 (by omega) hq ho) (fun r1 M2 h => ?_)
    show mm_Runs L xs (d + 1) 254 (28, [some (.int v0), some (.int v1)], [.int r1], M2) o
    refine mm_Runs.seq (l := [(28, .iload_n 0, 1)]) (S2 := (29, [some (.int v0), some (.int v1)], [.int v0, .int r1], M2)) (by decide +kernel) (hO := mm_own_254) rfl ?_
    refine mm_R_igt (t := 38) rfl rfl rfl (fun hc => ?_) (fun hc => ?_)
    · replace h := mm_ip hc h
      cases h
      exact (show mp_254_38 L xs (d + 1) v1 M2 o from hA) (some (.int v0))
    · replace h := mm_iq hc h
      refine mm_Runs.seq (l := [(32, .iinc 1 1, 3), (35, .goto (-20), 3)]) (S2 := (15, [some (.int v0), some (.int (v1 + (1 : Int32)))], [], M2)) (by decide +kernel) (hO := mm_own_254) rfl ?_
      cases h
      exact (show mp_254_15 L xs (d + 1) v0 (v1 + (1 : Int32)) M2 o from hA)
  · replace h := mm_iq hc h
    cases h
    exact (show mp_254_38 L xs (d + 1) v1 M o from hA) (some (.int v0))
theorem ms_254_L15 {L : Nat} {xs : Nat → Int32} {d : Nat} (hd : 1 ≤ d) {v0 : Int32} {v1 : Int32} {β : Type} {K : β → mm_M → mm_E → Prop} {F : (Int32) → mm_M → mm_O β} {M : mm_M} {q : (β ⊕ Nat) × mm_M} {o : mm_E} (h : mm_B (mf_254_L15 v0 v1 M) F = some q) (hA : mm_A K q o) (hx : ∀ (r : (Int32)) (M2 : mm_M), F r M2 = some q → (fun r M o => mp_254_38 L xs (d) r M o) r M2 o) : mp_254_15 L xs d v0 v1 M o := mm_R_loop (s := v1) (M := M) (P := (fun s M o => mp_254_15 L xs (d) v0 s M o)) (X := (fun r M o => mp_254_38 L xs (d) r M o)) h hA (fun s M q hq hA => ms_254_b15 hd hq hA) hx
noncomputable def mf_254 (v0 : Int32) (M : mm_M) : mm_O Int32 := if v0 = (258 : Int32) then (some (.inl (285 : Int32), M)) else (mm_B (mf_254_L15 v0 (257 : Int32) M) (fun r2 M1 => some (.inl r2, M1)))
set_option maxRecDepth 8000 in
set_option maxHeartbeats 4000000 in
theorem ms_254 {L : Nat} {xs : Nat → Int32} {d : Nat} (hd : 1 ≤ d) {v0 : Int32} {M : mm_M} {q : (Int32 ⊕ Nat) × mm_M} {o : mm_E} (h : mf_254 v0 M = some q) (hA : mm_A (mm_Kr mm_wi) q o) : mm_Runs L xs d 254 (0, mm_ent (mm_ml 254) [.int v0], [], M) o := by
  unfold mf_254 at h
  obtain ⟨d, rfl⟩ := mm_d1 (n := 0) hd
  show mm_Runs L xs (d + 1) 254 (0, [some (.int v0), none], [], M) o
  refine mm_Runs.seq (l := [(0, .iload_n 0, 1), (1, .sipush 258, 3)]) (S2 := (4, [some (.int v0), none], [.int (258 : Int32), .int v0], M)) (by decide +kernel) (hO := mm_own_254) rfl ?_
  refine mm_R_ine (t := 11) rfl rfl rfl (fun hc => ?_) (fun hc => ?_)
  · replace h := mm_ip hc h
    refine mm_Runs.seq (l := [(7, .sipush 285, 3)]) (S2 := (10, [some (.int v0), none], [.int (285 : Int32)], M)) (by decide +kernel) (hO := mm_own_254) rfl ?_
    cases h
    exact mm_R_reti rfl rfl hA
  · replace h := mm_iq hc h
    refine mm_Runs.seq (l := [(11, .sipush 257, 3), (14, .istore_n 1, 1)]) (S2 := (15, [some (.int v0), some (.int (257 : Int32))], [], M)) (by decide +kernel) (hO := mm_own_254) rfl ?_
    have hp : mp_254_15 L xs (d + 1) v0 (257 : Int32) M o := by
      refine ms_254_L15 hd h hA (fun r2 M1 h => ?_)
      intro y3
      show mm_Runs L xs (d + 1) 254 (38, [y3, some (.int r2)], [], M1) o
      refine mm_Runs.seq (l := [(38, .iload_n 1, 1)]) (S2 := (39, [y3, some (.int r2)], [.int r2], M1)) (by decide +kernel) (hO := mm_own_254) rfl ?_
      cases h
      exact mm_R_reti rfl rfl hA
    exact hp
