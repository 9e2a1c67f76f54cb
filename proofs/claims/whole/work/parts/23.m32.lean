/-! MEANINGS 32 -/
-- 151: PlainPacks$Sorted.listOccurring()V (depth 1)
theorem mm_own_151 : mm_own 151 = 10 := rfl
def mp_151_10 (L : Nat) (xs : Nat → Int32) (d : Nat) (v1 : Int32) (M : mm_M) (o : mm_E) : Prop := mm_Runs L xs d 151 (10, [some (.ref 42), some (.int v1)], [], M) o
def mp_151_39 (L : Nat) (xs : Nat → Int32) (d : Nat) (M : mm_M) (o : mm_E) : Prop := ∀ z1 : Option Value, mm_Runs L xs d 151 (39, [some (.ref 42), z1], [], M) o
noncomputable def mf_151_b10 (v1 : Int32) (M : mm_M) : mm_O ((Int32) ⊕ (Unit)) := if v1 < (M.1 42 12) then (if mm_in v1 16384 then if mm_in (M.1 47 v1.toNatClampNeg) 257 then if mm_in (M.1 47 v1.toNatClampNeg) 257 then some (.inl (.inl (v1 + (1 : Int32))), (mm_pi M 49 (M.1 47 v1.toNatClampNeg).toNatClampNeg ((M.1 49 (M.1 47 v1.toNatClampNeg).toNatClampNeg) + (1 : Int32)))) else none else none else none) else (some (.inl (.inr ()), M))
noncomputable def mf_151_L10 (s : Int32) (M : mm_M) : mm_O (Unit) := mm_L (fun s M => mf_151_b10 s M) s M
set_option maxRecDepth 8000 in
set_option maxHeartbeats 4000000 in
theorem ms_151_b10 {L : Nat} {xs : Nat → Int32} {d : Nat} (hd : 1 ≤ d) {v1 : Int32} {M : mm_M} {q : (((Int32) ⊕ (Unit)) ⊕ Nat) × mm_M} {o : mm_E} (h : mf_151_b10 v1 M = some q) (hA : mm_A (mm_K2 (fun s M o => mp_151_10 L xs (d) s M o) (fun r M o => mp_151_39 L xs (d) M o)) q o) : mp_151_10 L xs d v1 M o := by
  unfold mf_151_b10 at h
  obtain ⟨d, rfl⟩ := mm_d1 (n := 0) hd
  show mm_Runs L xs (d + 1) 151 (10, [some (.ref 42), some (.int v1)], [], M) o
  refine mm_Runs.seq (l := [(10, .iload_n 1, 1), (11, .aload_n 0, 1), (12, .getfield 124, 3)]) (S2 := (15, [some (.ref 42), some (.int v1)], [.int (M.1 42 12), .int v1], M)) (by decide +kernel) (hO := mm_own_151) rfl ?_
  refine mm_R_ige (t := 39) rfl rfl rfl (fun hc => ?_) (fun hc => ?_)
  · replace h := mm_ip hc h
    refine mm_Runs.seq (l := [(18, .aload_n 0, 1), (19, .getfield 33, 3), (22, .aload_n 0, 1), (23, .getfield 27, 3), (26, .iload_n 1, 1)]) (S2 := (27, [some (.ref 42), some (.int v1)], [.int v1, .ref 47, .ref 49], M)) (by decide +kernel) (hO := mm_own_151) rfl ?_
    obtain ⟨hb, h⟩ := mm_gd h
    refine mm_R_iald rfl rfl hb ?_
    refine mm_Runs.seq (l := [(28, .dup2, 1)]) (S2 := (29, [some (.ref 42), some (.int v1)], [.int (M.1 47 v1.toNatClampNeg), .ref 49, .int (M.1 47 v1.toNatClampNeg), .ref 49], M)) (by decide +kernel) (hO := mm_own_151) rfl ?_
    obtain ⟨hb, h⟩ := mm_gd h
    refine mm_R_iald rfl rfl hb ?_
    refine mm_Runs.seq (l := [(30, .iconst 1, 1), (31, .iadd, 1)]) (S2 := (32, [some (.ref 42), some (.int v1)], [.int ((M.1 49 (M.1 47 v1.toNatClampNeg).toNatClampNeg) + (1 : Int32)), .int (M.1 47 v1.toNatClampNeg), .ref 49], M)) (by decide +kernel) (hO := mm_own_151) rfl ?_
    obtain ⟨hb, h⟩ := mm_gd h
    refine mm_R_iast rfl rfl hb ?_
    refine mm_Runs.seq (l := [(33, .iinc 1 1, 3), (36, .goto (-26), 3)]) (S2 := (10, [some (.ref 42), some (.int (v1 + (1 : Int32)))], [], (mm_pi M 49 (M.1 47 v1.toNatClampNeg).toNatClampNeg ((M.1 49 (M.1 47 v1.toNatClampNeg).toNatClampNeg) + (1 : Int32))))) (by decide +kernel) (hO := mm_own_151) rfl ?_
    cases h
    exact (show mp_151_10 L xs (d + 1) (v1 + (1 : Int32)) (mm_pi M 49 (M.1 47 v1.toNatClampNeg).toNatClampNeg ((M.1 49 (M.1 47 v1.toNatClampNeg).toNatClampNeg) + (1 : Int32))) o from hA)
  · replace h := mm_iq hc h
    cases h
    exact (show mp_151_39 L xs (d + 1) M o from hA) (some (.int v1))
theorem ms_151_L10 {L : Nat} {xs : Nat → Int32} {d : Nat} (hd : 1 ≤ d) {v1 : Int32} {β : Type} {K : β → mm_M → mm_E → Prop} {F : (Unit) → mm_M → mm_O β} {M : mm_M} {q : (β ⊕ Nat) × mm_M} {o : mm_E} (h : mm_B (mf_151_L10 v1 M) F = some q) (hA : mm_A K q o) (hx : ∀ (r : (Unit)) (M2 : mm_M), F r M2 = some q → (fun r M o => mp_151_39 L xs (d) M o) r M2 o) : mp_151_10 L xs d v1 M o := mm_R_loop (s := v1) (M := M) (P := (fun s M o => mp_151_10 L xs (d) s M o)) (X := (fun r M o => mp_151_39 L xs (d) M o)) h hA (fun s M q hq hA => ms_151_b10 hd hq hA) hx
def mp_151_46 (L : Nat) (xs : Nat → Int32) (d : Nat) (v1 : Int32) (M : mm_M) (o : mm_E) : Prop := mm_Runs L xs d 151 (46, [some (.ref 42), some (.int v1)], [], M) o
def mp_151_88 (L : Nat) (xs : Nat → Int32) (d : Nat) (M : mm_M) (o : mm_E) : Prop := ∀ z0 z1 : Option Value, mm_Runs L xs d 151 (88, [z0, z1], [], M) o
noncomputable def mf_151_b46 (v1 : Int32) (M : mm_M) : mm_O ((Int32) ⊕ (Unit)) := if v1 < (256 : Int32) then (if mm_in v1 257 then if 0 < (M.1 49 v1.toNatClampNeg) then (if mm_in (M.1 42 9) 256 then some (.inl (.inl (v1 + (1 : Int32))), (mm_pi (mm_pi M 46 (M.1 42 9).toNatClampNeg v1) 42 9 ((M.1 42 9) + (1 : Int32)))) else none) else (some (.inl (.inl (v1 + (1 : Int32))), M)) else none) else (some (.inl (.inr ()), M))
noncomputable def mf_151_L46 (s : Int32) (M : mm_M) : mm_O (Unit) := mm_L (fun s M => mf_151_b46 s M) s M
set_option maxRecDepth 8000 in
set_option maxHeartbeats 4000000 in
theorem ms_151_b46 {L : Nat} {xs : Nat → Int32} {d : Nat} (hd : 1 ≤ d) {v1 : Int32} {M : mm_M} {q : (((Int32) ⊕ (Unit)) ⊕ Nat) × mm_M} {o : mm_E} (h : mf_151_b46 v1 M = some q) (hA : mm_A (mm_K2 (fun s M o => mp_151_46 L xs (d) s M o) (fun r M o => mp_151_88 L xs (d) M o)) q o) : mp_151_46 L xs d v1 M o := by
  unfold mf_151_b46 at h
  obtain ⟨d, rfl⟩ := mm_d1 (n := 0) hd
  show mm_Runs L xs (d + 1) 151 (46, [some (.ref 42), some (.int v1)], [], M) o
  refine mm_Runs.seq (l := [(46, .iload_n 1, 1), (47, .sipush 256, 3)]) (S2 := (50, [some (.ref 42), some (.int v1)], [.int (256 : Int32), .int v1], M)) (by decide +kernel) (hO := mm_own_151) rfl ?_
  refine mm_R_ige (t := 88) rfl rfl rfl (fun hc => ?_) (fun hc => ?_)
  · replace h := mm_ip hc h
    refine mm_Runs.seq (l := [(53, .aload_n 0, 1), (54, .getfield 33, 3), (57, .iload_n 1, 1)]) (S2 := (58, [some (.ref 42), some (.int v1)], [.int v1, .ref 49], M)) (by decide +kernel) (hO := mm_own_151) rfl ?_
    obtain ⟨hb, h⟩ := mm_gd h
    refine mm_R_iald rfl rfl hb ?_
    refine mm_R_zle (t := 82) rfl rfl rfl (fun hc => ?_) (fun hc => ?_)
    · replace h := mm_ip hc h
      refine mm_Runs.seq (l := [(62, .aload_n 0, 1), (63, .getfield 24, 3), (66, .aload_n 0, 1), (67, .getfield 125, 3), (70, .iload_n 1, 1)]) (S2 := (71, [some (.ref 42), some (.int v1)], [.int v1, .int (M.1 42 9), .ref 46], M)) (by decide +kernel) (hO := mm_own_151) rfl ?_
      obtain ⟨hb, h⟩ := mm_gd h
      refine mm_R_iast rfl rfl hb ?_
      refine mm_Runs.seq (l := [(72, .aload_n 0, 1), (73, .dup, 1), (74, .getfield 125, 3), (77, .iconst 1, 1), (78, .iadd, 1), (79, .putfield 125, 3), (82, .iinc 1 1, 3), (85, .goto (-39), 3)]) (S2 := (46, [some (.ref 42), some (.int (v1 + (1 : Int32)))], [], (mm_pi (mm_pi M 46 (M.1 42 9).toNatClampNeg v1) 42 9 ((M.1 42 9) + (1 : Int32))))) (by decide +kernel) (hO := mm_own_151) rfl ?_
      cases h
      exact (show mp_151_46 L xs (d + 1) (v1 + (1 : Int32)) (mm_pi (mm_pi M 46 (M.1 42 9).toNatClampNeg v1) 42 9 ((M.1 42 9) + (1 : Int32))) o from hA)
    · replace h := mm_iq hc h
      refine mm_Runs.seq (l := [(82, .iinc 1 1, 3), (85, .goto (-39), 3)]) (S2 := (46, [some (.ref 42), some (.int (v1 + (1 : Int32)))], [], M)) (by decide +kernel) (hO := mm_own_151) rfl ?_
      cases h
      exact (show mp_151_46 L xs (d + 1) (v1 + (1 : Int32)) M o from hA)
  · replace h := mm_iq hc h
    cases h
    exact (show mp_151_88 L xs (d + 1) M o from hA) (some (.ref 42)) (some (.int v1))
theorem ms_151_L46 {L : Nat} {xs : Nat → Int32} {d : Nat} (hd : 1 ≤ d) {v1 : Int32} {β : Type} {K : β → mm_M → mm_E → Prop} {F : (Unit) → mm_M → mm_O β} {M : mm_M} {q : (β ⊕ Nat) × mm_M} {o : mm_E} (h : mm_B (mf_151_L46 v1 M) F = some q) (hA : mm_A K q o) (hx : ∀ (r : (Unit)) (M2 : mm_M), F r M2 = some q → (fun r M o => mp_151_88 L xs (d) M o) r M2 o) : mp_151_46 L xs d v1 M o := mm_R_loop (s := v1) (M := M) (P := (fun s M o => mp_151_46 L xs (d) s M o)) (X := (fun r M o => mp_151_88 L xs (d) M o)) h hA (fun s M q hq hA => ms_151_b46 hd hq hA) hx
noncomputable def mf_151 (M : mm_M) : mm_O Unit := mm_B (mf_290 49 257 (0 : Int32) M) (fun _ M1 => mm_B (mf_151_L10 (0 : Int32) M1) (fun r3 M2 => mm_B (mf_151_L46 (0 : Int32) (mm_pi M2 42 9 (0 : Int32))) (fun r6 M5 => some (.inl (), M5))))
set_option maxRecDepth 8000 in
set_option maxHeartbeats 4000000 in
theorem ms_151 {L : Nat} {xs : Nat → Int32} {d : Nat} (hd : 1 ≤ d) {M : mm_M} {q : (Unit ⊕ Nat) × mm_M} {o : mm_E} (h : mf_151 M = some q) (hA : mm_A (mm_Kr mm_wv) q o) : mm_Runs L xs d 151 (0, mm_ent (mm_ml 151) [.ref 42], [], M) o := by
  unfold mf_151 at h
  obtain ⟨d, rfl⟩ := mm_d1 (n := 0) hd
  show mm_Runs L xs (d + 1) 151 (0, [some (.ref 42), none], [], M) o
  refine mm_Runs.seq (l := [(0, .aload_n 0, 1), (1, .getfield 33, 3), (4, .iconst 0, 1)]) (S2 := (5, [some (.ref 42), none], [.int (0 : Int32), .ref 49], M)) (by decide +kernel) (hO := mm_own_151) rfl ?_
  refine mm_R_call (v := mm_wv) h hA (k2 := 290) (as := [.ref 49, .int (0 : Int32)]) (r := []) rfl (fun _ => rfl) (fun q hq o ho => ms_290 rfl (by omega) hq ho) (fun _ M1 h => ?_)
  show mm_Runs L xs (d + 1) 151 (8, [some (.ref 42), none], [], M1) o
  refine mm_Runs.seq (l := [(8, .iconst 0, 1), (9, .istore_n 1, 1)]) (S2 := (10, [some (.ref 42), some (.int (0 : Int32))], [], M1)) (by decide +kernel) (hO := mm_own_151) rfl ?_
  have hp : mp_151_10 L xs (d + 1) (0 : Int32) M1 o := by
    refine ms_151_L10 hd h hA (fun r3 M2 h => ?_)
    intro y4
    show mm_Runs L xs (d + 1) 151 (39, [some (.ref 42), y4], [], M2) o
    refine mm_Runs.seq (l := [(39, .aload_n 0, 1), (40, .iconst 0, 1), (41, .putfield 125, 3), (44, .iconst 0, 1), (45, .istore_n 1, 1)]) (S2 := (46, [some (.ref 42), some (.int (0 : Int32))], [], (mm_pi M2 42 9 (0 : Int32)))) (by decide +kernel) (hO := mm_own_151) rfl ?_
    have hp : mp_151_46 L xs (d + 1) (0 : Int32) (mm_pi M2 42 9 (0 : Int32)) o := by
      refine ms_151_L46 hd h hA (fun r6 M5 h => ?_)
      intro y7 y8
      show mm_Runs L xs (d + 1) 151 (88, [y7, y8], [], M5) o
      cases h
      exact mm_R_retv rfl rfl hA
    exact hp
  exact hp
-- 153: PlainPacks$Sorted.addLetter(I)V (depth 0)
theorem mm_own_153 : mm_own 153 = 10 := rfl
noncomputable def mf_153 (v1 : Int32) (M : mm_M) : mm_O Unit := if (M.1 42 15) < (16384 : Int32) then (if mm_in (M.1 42 15) 16384 then some (.inl (), (mm_pi (mm_pi M 48 (M.1 42 15).toNatClampNeg v1) 42 15 ((M.1 42 15) + (1 : Int32)))) else none) else (some (.inl (), M))
set_option maxRecDepth 8000 in
set_option maxHeartbeats 4000000 in
theorem ms_153 {L : Nat} {xs : Nat → Int32} {d : Nat} (hd : 0 ≤ d) {v1 : Int32} {M : mm_M} {q : (Unit ⊕ Nat) × mm_M} {o : mm_E} (h : mf_153 v1 M = some q) (hA : mm_A (mm_Kr mm_wv) q o) : mm_Runs L xs d 153 (0, mm_ent (mm_ml 153) [.ref 42, .int v1], [], M) o := by
  unfold mf_153 at h
  show mm_Runs L xs (d) 153 (0, [some (.ref 42), some (.int v1)], [], M) o
  refine mm_Runs.seq (l := [(0, .aload_n 0, 1), (1, .getfield 196, 3), (4, .aload_n 0, 1), (5, .getfield 30, 3), (8, .arraylength, 1)]) (S2 := (9, [some (.ref 42), some (.int v1)], [.int (16384 : Int32), .int (M.1 42 15)], M)) (by decide +kernel) (hO := mm_own_153) rfl ?_
  refine mm_R_ige (t := 32) rfl rfl rfl (fun hc => ?_) (fun hc => ?_)
  · replace h := mm_ip hc h
    refine mm_Runs.seq (l := [(12, .aload_n 0, 1), (13, .getfield 30, 3), (16, .aload_n 0, 1), (17, .getfield 196, 3), (20, .iload_n 1, 1)]) (S2 := (21, [some (.ref 42), some (.int v1)], [.int v1, .int (M.1 42 15), .ref 48], M)) (by decide +kernel) (hO := mm_own_153) rfl ?_
    obtain ⟨hb, h⟩ := mm_gd h
    refine mm_R_iast rfl rfl hb ?_
    refine mm_Runs.seq (l := [(22, .aload_n 0, 1), (23, .dup, 1), (24, .getfield 196, 3), (27, .iconst 1, 1), (28, .iadd, 1), (29, .putfield 196, 3)]) (S2 := (32, [some (.ref 42), some (.int v1)], [], (mm_pi (mm_pi M 48 (M.1 42 15).toNatClampNeg v1) 42 15 ((M.1 42 15) + (1 : Int32))))) (by decide +kernel) (hO := mm_own_153) rfl ?_
    cases h
    exact mm_R_retv rfl rfl hA
  · replace h := mm_iq hc h
    cases h
    exact mm_R_retv rfl rfl hA
-- 154: PlainPacks$Sorted.closeRun()V (depth 1)
theorem mm_own_154 : mm_own 154 = 10 := rfl
def mp_154_0 (L : Nat) (xs : Nat → Int32) (d : Nat) (M : mm_M) (o : mm_E) : Prop := ∀ z1 : Option Value, mm_Runs L xs d 154 (0, [some (.ref 42), z1], [], M) o
def mp_154_45 (L : Nat) (xs : Nat → Int32) (d : Nat) (M : mm_M) (o : mm_E) : Prop := ∀ z0 z1 : Option Value, mm_Runs L xs d 154 (45, [z0, z1], [], M) o
def mp_154_22 (L : Nat) (xs : Nat → Int32) (d : Nat) (s0 : Int32) (M : mm_M) (o : mm_E) : Prop := ∀ z1 : Option Value, mm_Runs L xs d 154 (22, [some (.ref 42), z1], [.int s0], M) o
noncomputable def mf_154_j22 (s0 : Int32) (M : mm_M) : mm_O ((Unit) ⊕ (Unit)) := mm_B (mf_153 (s0 - (1 : Int32)) M) (fun _ M1 => some (.inl (.inl ()), (mm_pi M1 42 16 (((M1.1 42 16) - s0) / (2 : Int32)))))
set_option maxRecDepth 8000 in
set_option maxHeartbeats 4000000 in
theorem ms_154_j22 {L : Nat} {xs : Nat → Int32} {d : Nat} (hd : 1 ≤ d) {s0 : Int32} {M : mm_M} {q : (((Unit) ⊕ (Unit)) ⊕ Nat) × mm_M} {o : mm_E} (h : mf_154_j22 s0 M = some q) (hA : mm_A (mm_K2 (fun s M o => mp_154_0 L xs (d) M o) (fun r M o => mp_154_45 L xs (d) M o)) q o) : mp_154_22 L xs d s0 M o := by
  unfold mf_154_j22 at h
  obtain ⟨d, rfl⟩ := mm_d1 (n := 0) hd
  intro z1
  show mm_Runs L xs (d + 1) 154 (22, [some (.ref 42), z1], [.int s0], M) o
  refine mm_Runs.seq (l := [(22, .istore_n 1, 1), (23, .aload_n 0, 1), (24, .iload_n 1, 1), (25, .iconst 1, 1), (26, .isub, 1)]) (S2 := (27, [some (.ref 42), some (.int s0)], [.int (s0 - (1 : Int32)), .ref 42], M)) (by decide +kernel) (hO := mm_own_154) rfl ?_
  refine mm_R_call (v := mm_wv) h hA (k2 := 153) (as := [.ref 42, .int (s0 - (1 : Int32))]) (r := []) rfl (fun _ => rfl) (fun q hq o ho => ms_153 (by omega) hq ho) (fun _ M1 h => ?_)
  show mm_Runs L xs (d + 1) 154 (30, [some (.ref 42), some (.int s0)], [], M1) o
  refine mm_Runs.seq (l := [(30, .aload_n 0, 1), (31, .aload_n 0, 1), (32, .getfield 199, 3), (35, .iload_n 1, 1), (36, .isub, 1), (37, .iconst 2, 1), (38, .idiv, 1), (39, .putfield 199, 3), (42, .goto (-42), 3)]) (S2 := (0, [some (.ref 42), some (.int s0)], [], (mm_pi M1 42 16 (((M1.1 42 16) - s0) / (2 : Int32))))) (by decide +kernel) (hO := mm_own_154) rfl ?_
  cases h
  exact (show mp_154_0 L xs (d + 1) (mm_pi M1 42 16 (((M1.1 42 16) - s0) / (2 : Int32))) o from hA) (some (.int s0))
noncomputable def mf_154_b0 (M : mm_M) : mm_O ((Unit) ⊕ (Unit)) := if 0 < (M.1 42 16) then (if (mm_rem (M.1 42 16) (2 : Int32)) = (1 : Int32) then (mf_154_j22 (1 : Int32) M) else (mf_154_j22 (2 : Int32) M)) else (some (.inl (.inr ()), M))
noncomputable def mf_154_L0 (s : Unit) (M : mm_M) : mm_O (Unit) := mm_L (fun s M => mf_154_b0 M) s M
set_option maxRecDepth 8000 in
set_option maxHeartbeats 4000000 in
theorem ms_154_b0 {L : Nat} {xs : Nat → Int32} {d : Nat} (hd : 1 ≤ d) {M : mm_M} {q : (((Unit) ⊕ (Unit)) ⊕ Nat) × mm_M} {o : mm_E} (h : mf_154_b0 M = some q) (hA : mm_A (mm_K2 (fun s M o => mp_154_0 L xs (d) M o) (fun r M o => mp_154_45 L xs (d) M o)) q o) : mp_154_0 L xs d M o := by
  unfold mf_154_b0 at h
  obtain ⟨d, rfl⟩ := mm_d1 (n := 0) hd
  intro z1
  show mm_Runs L xs (d + 1) 154 (0, [some (.ref 42), z1], [], M) o
  refine mm_Runs.seq (l := [(0, .aload_n 0, 1), (1, .getfield 199, 3)]) (S2 := (4, [some (.ref 42), z1], [.int (M.1 42 16)], M)) (by decide +kernel) (hO := mm_own_154) rfl ?_
  refine mm_R_zle (t := 45) rfl rfl rfl (fun hc => ?_) (fun hc => ?_)
  · replace h := mm_ip hc h
    refine mm_Runs.seq (l := [(7, .aload_n 0, 1), (8, .getfield 199, 3), (11, .iconst 2, 1), (12, .irem, 1), (13, .iconst 1, 1)]) (S2 := (14, [some (.ref 42), z1], [.int (1 : Int32), .int (mm_rem (M.1 42 16) (2 : Int32))], M)) (by decide +kernel) (hO := mm_own_154) rfl ?_
    refine mm_R_ine (t := 21) rfl rfl rfl (fun hc => ?_) (fun hc => ?_)
    · replace h := mm_ip hc h
      refine mm_Runs.seq (l := [(17, .iconst 1, 1), (18, .goto 4, 3)]) (S2 := (22, [some (.ref 42), z1], [.int (1 : Int32)], M)) (by decide +kernel) (hO := mm_own_154) rfl ?_
      exact (ms_154_j22 hd h hA : mp_154_22 L xs (d + 1) (1 : Int32) M o) z1
    · replace h := mm_iq hc h
      refine mm_Runs.seq (l := [(21, .iconst 2, 1)]) (S2 := (22, [some (.ref 42), z1], [.int (2 : Int32)], M)) (by decide +kernel) (hO := mm_own_154) rfl ?_
      exact (ms_154_j22 hd h hA : mp_154_22 L xs (d + 1) (2 : Int32) M o) z1
  · replace h := mm_iq hc h
    cases h
    exact (show mp_154_45 L xs (d + 1) M o from hA) (some (.ref 42)) z1
theorem ms_154_L0 {L : Nat} {xs : Nat → Int32} {d : Nat} (hd : 1 ≤ d) {β : Type} {K : β → mm_M → mm_E → Prop} {F : (Unit) → mm_M → mm_O β} {M : mm_M} {q : (β ⊕ Nat) × mm_M} {o : mm_E} (h : mm_B (mf_154_L0 () M) F = some q) (hA : mm_A K q o) (hx : ∀ (r : (Unit)) (M2 : mm_M), F r M2 = some q → (fun r M o => mp_154_45 L xs (d) M o) r M2 o) : mp_154_0 L xs d M o := mm_R_loop (s := ()) (M := M) (P := (fun s M o => mp_154_0 L xs (d) M o)) (X := (fun r M o => mp_154_45 L xs (d) M o)) h hA (fun s M q hq hA => ms_154_b0 hd hq hA) hx
noncomputable def mf_154 (M : mm_M) : mm_O Unit := mm_B (mf_154_L0 () M) (fun r2 M1 => some (.inl (), M1))
set_option maxRecDepth 8000 in
set_option maxHeartbeats 4000000 in
theorem ms_154 {L : Nat} {xs : Nat → Int32} {d : Nat} (hd : 1 ≤ d) {M : mm_M} {q : (Unit ⊕ Nat) × mm_M} {o : mm_E} (h : mf_154 M = some q) (hA : mm_A (mm_Kr mm_wv) q o) : mm_Runs L xs d 154 (0, mm_ent (mm_ml 154) [.ref 42], [], M) o := by
  unfold mf_154 at h
  obtain ⟨d, rfl⟩ := mm_d1 (n := 0) hd
  show mm_Runs L xs (d + 1) 154 (0, [some (.ref 42), none], [], M) o
  have hp : mp_154_0 L xs (d + 1) M o := by
    refine ms_154_L0 hd h hA (fun r2 M1 h => ?_)
    intro y3 y4
    show mm_Runs L xs (d + 1) 154 (45, [y3, y4], [], M1) o
    cases h
    exact mm_R_retv rfl rfl hA
  exact hp none
-- 152: PlainPacks$Sorted.placeInRow(I)I (depth 0)
theorem mm_own_152 : mm_own 152 = 10 := rfl
def mp_152_2 (L : Nat) (xs : Nat → Int32) (d : Nat) (v1 : Int32) (v2 : Int32) (M : mm_M) (o : mm_E) : Prop := mm_Runs L xs d 152 (2, [some (.ref 42), some (.int v1), some (.int v2)], [], M) o
def mp_152_28 (L : Nat) (xs : Nat → Int32) (d : Nat) (v2 : Int32) (M : mm_M) (o : mm_E) : Prop := ∀ z0 z1 : Option Value, mm_Runs L xs d 152 (28, [z0, z1, some (.int v2)], [], M) o
noncomputable def mf_152_b2 (v1 : Int32) (v2 : Int32) (M : mm_M) : mm_O ((Int32) ⊕ (Int32)) := if v2 < ((M.1 42 9) - (1 : Int32)) then (if mm_in v2 256 then if (M.1 46 v2.toNatClampNeg) = v1 then (some (.inl (.inr v2), M)) else (some (.inl (.inl (v2 + (1 : Int32))), M)) else none) else (some (.inl (.inr v2), M))
noncomputable def mf_152_L2 (v1 : Int32) (s : Int32) (M : mm_M) : mm_O (Int32) := mm_L (fun s M => mf_152_b2 v1 s M) s M
set_option maxRecDepth 8000 in
set_option maxHeartbeats 4000000 in
theorem ms_152_b2 {L : Nat} {xs : Nat → Int32} {d : Nat} (hd : 0 ≤ d) {v1 : Int32} {v2 : Int32} {M : mm_M} {q : (((Int32) ⊕ (Int32)) ⊕ Nat) × mm_M} {o : mm_E} (h : mf_152_b2 v1 v2 M = some q) (hA : mm_A (mm_K2 (fun s M o => mp_152_2 L xs (d) v1 s M o) (fun r M o => mp_152_28 L xs (d) r M o)) q o) : mp_152_2 L xs d v1 v2 M o := by
  unfold mf_152_b2 at h
  show mm_Runs L xs (d) 152 (2, [some (.ref 42), some (.int v1), some (.int v2)], [], M) o
  refine mm_Runs.seq (l := [(2, .iload_n 2, 1), (3, .aload_n 0, 1), (4, .getfield 125, 3), (7, .iconst 1, 1), (8, .isub, 1)]) (S2 := (9, [some (.ref 42), some (.int v1), some (.int v2)], [.int ((M.1 42 9) - (1 : Int32)), .int v2], M)) (by decide +kernel) (hO := mm_own_152) rfl ?_
  refine mm_R_ige (t := 28) rfl rfl rfl (fun hc => ?_) (fun hc => ?_)
  · replace h := mm_ip hc h
    refine mm_Runs.seq (l := [(12, .aload_n 0, 1), (13, .getfield 24, 3), (16, .iload_n 2, 1)]) (S2 := (17, [some (.ref 42), some (.int v1), some (.int v2)], [.int v2, .ref 46], M)) (by decide +kernel) (hO := mm_own_152) rfl ?_
    obtain ⟨hb, h⟩ := mm_gd h
    refine mm_R_iald rfl rfl hb ?_
    refine mm_Runs.seq (l := [(18, .iload_n 1, 1)]) (S2 := (19, [some (.ref 42), some (.int v1), some (.int v2)], [.int v1, .int (M.1 46 v2.toNatClampNeg)], M)) (by decide +kernel) (hO := mm_own_152) rfl ?_
    refine mm_R_ieq (t := 28) rfl rfl rfl (fun hc => ?_) (fun hc => ?_)
    · replace h := mm_ip hc h
      cases h
      exact (show mp_152_28 L xs (d) v2 M o from hA) (some (.ref 42)) (some (.int v1))
    · replace h := mm_iq hc h
      refine mm_Runs.seq (l := [(22, .iinc 2 1, 3), (25, .goto (-23), 3)]) (S2 := (2, [some (.ref 42), some (.int v1), some (.int (v2 + (1 : Int32)))], [], M)) (by decide +kernel) (hO := mm_own_152) rfl ?_
      cases h
      exact (show mp_152_2 L xs (d) v1 (v2 + (1 : Int32)) M o from hA)
  · replace h := mm_iq hc h
    cases h
    exact (show mp_152_28 L xs (d) v2 M o from hA) (some (.ref 42)) (some (.int v1))
theorem ms_152_L2 {L : Nat} {xs : Nat → Int32} {d : Nat} (hd : 0 ≤ d) {v1 : Int32} {v2 : Int32} {β : Type} {K : β → mm_M → mm_E → Prop} {F : (Int32) → mm_M → mm_O β} {M : mm_M} {q : (β ⊕ Nat) × mm_M} {o : mm_E} (h : mm_B (mf_152_L2 v1 v2 M) F = some q) (hA : mm_A K q o) (hx : ∀ (r : (Int32)) (M2 : mm_M), F r M2 = some q → (fun r M o => mp_152_28 L xs (d) r M o) r M2 o) : mp_152_2 L xs d v1 v2 M o := mm_R_loop (s := v2) (M := M) (P := (fun s M o => mp_152_2 L xs (d) v1 s M o)) (X := (fun r M o => mp_152_28 L xs (d) r M o)) h hA (fun s M q hq hA => ms_152_b2 hd hq hA) hx
noncomputable def mf_152 (v1 : Int32) (M : mm_M) : mm_O Int32 := mm_B (mf_152_L2 v1 (0 : Int32) M) (fun r2 M1 => some (.inl r2, M1))
set_option maxRecDepth 8000 in
set_option maxHeartbeats 4000000 in
theorem ms_152 {L : Nat} {xs : Nat → Int32} {d : Nat} (hd : 0 ≤ d) {v1 : Int32} {M : mm_M} {q : (Int32 ⊕ Nat) × mm_M} {o : mm_E} (h : mf_152 v1 M = some q) (hA : mm_A (mm_Kr mm_wi) q o) : mm_Runs L xs d 152 (0, mm_ent (mm_ml 152) [.ref 42, .int v1], [], M) o := by
  unfold mf_152 at h
  show mm_Runs L xs (d) 152 (0, [some (.ref 42), some (.int v1), none], [], M) o
  refine mm_Runs.seq (l := [(0, .iconst 0, 1), (1, .istore_n 2, 1)]) (S2 := (2, [some (.ref 42), some (.int v1), some (.int (0 : Int32))], [], M)) (by decide +kernel) (hO := mm_own_152) rfl ?_
  have hp : mp_152_2 L xs (d) v1 (0 : Int32) M o := by
    refine ms_152_L2 hd h hA (fun r2 M1 h => ?_)
    intro y3 y4
    show mm_Runs L xs (d) 152 (28, [y3, y4, some (.int r2)], [], M1) o
    refine mm_Runs.seq (l := [(28, .iload_n 2, 1)]) (S2 := (29, [y3, y4, some (.int r2)], [.int r2], M1)) (by decide +kernel) (hO := mm_own_152) rfl ?_
    cases h
    exact mm_R_reti rfl rfl hA
  exact hp
-- 150: PlainPacks$Sorted.makeLetters()V (depth 4)
theorem mm_own_150 : mm_own 150 = 10 := rfl
def mp_150_31 (L : Nat) (xs : Nat → Int32) (d : Nat) (v1 : Int32) (M : mm_M) (o : mm_E) : Prop := ∀ z2 z3 z4 : Option Value, mm_Runs L xs d 150 (31, [some (.ref 42), some (.int v1), z2, z3, z4], [], M) o
def mp_150_137 (L : Nat) (xs : Nat → Int32) (d : Nat) (M : mm_M) (o : mm_E) : Prop := ∀ z1 z2 z3 z4 : Option Value, mm_Runs L xs d 150 (137, [some (.ref 42), z1, z2, z3, z4], [], M) o
def mp_150_58 (L : Nat) (xs : Nat → Int32) (d : Nat) (v1 : Int32) (v2 : Int32) (M : mm_M) (o : mm_E) : Prop := ∀ z3 z4 : Option Value, mm_Runs L xs d 150 (58, [some (.ref 42), some (.int v1), some (.int v2), z3, z4], [], M) o
def mp_150_78 (L : Nat) (xs : Nat → Int32) (d : Nat) (v1 : Int32) (s1 : Int32) (M : mm_M) (o : mm_E) : Prop := ∀ z2 z3 z4 : Option Value, mm_Runs L xs d 150 (78, [some (.ref 42), some (.int v1), z2, z3, z4], [.int s1, .ref 47], M) o
noncomputable def mf_150_j78 (v1 : Int32) (s1 : Int32) (M : mm_M) : mm_O ((Int32) ⊕ (Unit)) := if mm_in s1 16384 then if mm_in (0 : Int32) 256 then if (M.1 47 s1.toNatClampNeg) = (M.1 46 (0 : Int32).toNatClampNeg) then (some (.inl (.inl (v1 + (1 : Int32))), (mm_pi M 42 16 ((M.1 42 16) + (1 : Int32))))) else (mm_B (mf_154 M) (fun _ M1 => mm_B (mf_152 (M.1 47 s1.toNatClampNeg) M1) (fun r2 M3 => mm_B (mf_141 46 256 r2 M3) (fun _ M4 => mm_B (mf_153 (r2 + (1 : Int32)) M4) (fun _ M5 => some (.inl (.inl (v1 + (1 : Int32))), M5)))))) else none else none
set_option maxRecDepth 8000 in
set_option maxHeartbeats 4000000 in
theorem ms_150_j78 {L : Nat} {xs : Nat → Int32} {d : Nat} (hd : 4 ≤ d) {v1 : Int32} {s1 : Int32} {M : mm_M} {q : (((Int32) ⊕ (Unit)) ⊕ Nat) × mm_M} {o : mm_E} (h : mf_150_j78 v1 s1 M = some q) (hA : mm_A (mm_K2 (fun s M o => mp_150_31 L xs (d) s M o) (fun r M o => mp_150_137 L xs (d) M o)) q o) : mp_150_78 L xs d v1 s1 M o := by
  unfold mf_150_j78 at h
  obtain ⟨d, rfl⟩ := mm_d1 (n := 3) hd
  intro z2 z3 z4
  show mm_Runs L xs (d + 1) 150 (78, [some (.ref 42), some (.int v1), z2, z3, z4], [.int s1, .ref 47], M) o
  obtain ⟨hb, h⟩ := mm_gd h
  refine mm_R_iald rfl rfl hb ?_
  refine mm_Runs.seq (l := [(79, .istore_n 3, 1), (80, .iload_n 3, 1), (81, .aload_n 0, 1), (82, .getfield 24, 3), (85, .iconst 0, 1)]) (S2 := (86, [some (.ref 42), some (.int v1), (mm_no2 z2), some (.int (M.1 47 s1.toNatClampNeg)), z4], [.int (0 : Int32), .ref 46, .int (M.1 47 s1.toNatClampNeg)], M)) (by decide +kernel) (hO := mm_own_150) rfl ?_
  obtain ⟨hb, h⟩ := mm_gd h
  refine mm_R_iald rfl rfl hb ?_
  refine mm_R_ine (t := 103) rfl rfl rfl (fun hc => ?_) (fun hc => ?_)
  · replace h := mm_ip hc h
    refine mm_Runs.seq (l := [(90, .aload_n 0, 1), (91, .dup, 1), (92, .getfield 199, 3), (95, .iconst 1, 1), (96, .iadd, 1), (97, .putfield 199, 3), (100, .goto 31, 3), (131, .iinc 1 1, 3), (134, .goto (-103), 3)]) (S2 := (31, [some (.ref 42), some (.int (v1 + (1 : Int32))), (mm_no2 z2), some (.int (M.1 47 s1.toNatClampNeg)), z4], [], (mm_pi M 42 16 ((M.1 42 16) + (1 : Int32))))) (by decide +kernel) (hO := mm_own_150) rfl ?_
    cases h
    exact (show mp_150_31 L xs (d + 1) (v1 + (1 : Int32)) (mm_pi M 42 16 ((M.1 42 16) + (1 : Int32))) o from hA) ((mm_no2 z2)) (some (.int (M.1 47 s1.toNatClampNeg))) z4
  · replace h := mm_iq hc h
    refine mm_Runs.seq (l := [(103, .aload_n 0, 1)]) (S2 := (104, [some (.ref 42), some (.int v1), (mm_no2 z2), some (.int (M.1 47 s1.toNatClampNeg)), z4], [.ref 42], M)) (by decide +kernel) (hO := mm_own_150) rfl ?_
    refine mm_R_call (v := mm_wv) h hA (k2 := 154) (as := [.ref 42]) (r := []) rfl (fun _ => rfl) (fun q hq o ho => ms_154 (by omega) hq ho) (fun _ M1 h => ?_)
    show mm_Runs L xs (d + 1) 150 (107, [some (.ref 42), some (.int v1), (mm_no2 z2), some (.int (M.1 47 s1.toNatClampNeg)), z4], [], M1) o
    refine mm_Runs.seq (l := [(107, .aload_n 0, 1), (108, .iload_n 3, 1)]) (S2 := (109, [some (.ref 42), some (.int v1), (mm_no2 z2), some (.int (M.1 47 s1.toNatClampNeg)), z4], [.int (M.1 47 s1.toNatClampNeg), .ref 42], M1)) (by decide +kernel) (hO := mm_own_150) rfl ?_
    refine mm_R_call (v := mm_wi) h hA (k2 := 152) (as := [.ref 42, .int (M.1 47 s1.toNatClampNeg)]) (r := []) rfl (fun _ => rfl) (fun q hq o ho => ms_152 (by omega) hq ho) (fun r2 M3 h => ?_)
    show mm_Runs L xs (d + 1) 150 (112, [some (.ref 42), some (.int v1), (mm_no2 z2), some (.int (M.1 47 s1.toNatClampNeg)), z4], [.int r2], M3) o
    refine mm_Runs.seq (l := [(112, .istore 4, 2), (114, .aload_n 0, 1), (115, .getfield 24, 3), (118, .iload 4, 2)]) (S2 := (120, [some (.ref 42), some (.int v1), (mm_no2 z2), some (.int (M.1 47 s1.toNatClampNeg)), some (.int r2)], [.int r2, .ref 46], M3)) (by decide +kernel) (hO := mm_own_150) rfl ?_
    refine mm_R_call (v := mm_wv) h hA (k2 := 141) (as := [.ref 46, .int r2]) (r := []) rfl (fun _ => rfl) (fun q hq o ho => ms_141 rfl (by omega) hq ho) (fun _ M4 h => ?_)
    show mm_Runs L xs (d + 1) 150 (123, [some (.ref 42), some (.int v1), (mm_no2 z2), some (.int (M.1 47 s1.toNatClampNeg)), some (.int r2)], [], M4) o
    refine mm_Runs.seq (l := [(123, .aload_n 0, 1), (124, .iload 4, 2), (126, .iconst 1, 1), (127, .iadd, 1)]) (S2 := (128, [some (.ref 42), some (.int v1), (mm_no2 z2), some (.int (M.1 47 s1.toNatClampNeg)), some (.int r2)], [.int (r2 + (1 : Int32)), .ref 42], M4)) (by decide +kernel) (hO := mm_own_150) rfl ?_
    refine mm_R_call (v := mm_wv) h hA (k2 := 153) (as := [.ref 42, .int (r2 + (1 : Int32))]) (r := []) rfl (fun _ => rfl) (fun q hq o ho => ms_153 (by omega) hq ho) (fun _ M5 h => ?_)
    show mm_Runs L xs (d + 1) 150 (131, [some (.ref 42), some (.int v1), (mm_no2 z2), some (.int (M.1 47 s1.toNatClampNeg)), some (.int r2)], [], M5) o
    refine mm_Runs.seq (l := [(131, .iinc 1 1, 3), (134, .goto (-103), 3)]) (S2 := (31, [some (.ref 42), some (.int (v1 + (1 : Int32))), (mm_no2 z2), some (.int (M.1 47 s1.toNatClampNeg)), some (.int r2)], [], M5)) (by decide +kernel) (hO := mm_own_150) rfl ?_
    cases h
    exact (show mp_150_31 L xs (d + 1) (v1 + (1 : Int32)) M5 o from hA) ((mm_no2 z2)) (some (.int (M.1 47 s1.toNatClampNeg))) (some (.int r2))
noncomputable def mf_150_j58 (v1 : Int32) (v2 : Int32) (M : mm_M) : mm_O ((Int32) ⊕ (Unit)) := if 0 < v2 then (mf_150_j78 v1 (v2 - (1 : Int32)) M) else (mf_150_j78 v1 ((M.1 42 12) - (1 : Int32)) M)
set_option maxRecDepth 8000 in
set_option maxHeartbeats 4000000 in
theorem ms_150_j58 {L : Nat} {xs : Nat → Int32} {d : Nat} (hd : 4 ≤ d) {v1 : Int32} {v2 : Int32} {M : mm_M} {q : (((Int32) ⊕ (Unit)) ⊕ Nat) × mm_M} {o : mm_E} (h : mf_150_j58 v1 v2 M = some q) (hA : mm_A (mm_K2 (fun s M o => mp_150_31 L xs (d) s M o) (fun r M o => mp_150_137 L xs (d) M o)) q o) : mp_150_58 L xs d v1 v2 M o := by
  unfold mf_150_j58 at h
  obtain ⟨d, rfl⟩ := mm_d1 (n := 3) hd
  intro z3 z4
  show mm_Runs L xs (d + 1) 150 (58, [some (.ref 42), some (.int v1), some (.int v2), z3, z4], [], M) o
  refine mm_Runs.seq (l := [(58, .aload_n 0, 1), (59, .getfield 27, 3), (62, .iload_n 2, 1)]) (S2 := (63, [some (.ref 42), some (.int v1), some (.int v2), z3, z4], [.int v2, .ref 47], M)) (by decide +kernel) (hO := mm_own_150) rfl ?_
  refine mm_R_zle (t := 72) rfl rfl rfl (fun hc => ?_) (fun hc => ?_)
  · replace h := mm_ip hc h
    refine mm_Runs.seq (l := [(66, .iload_n 2, 1), (67, .iconst 1, 1), (68, .isub, 1), (69, .goto 9, 3)]) (S2 := (78, [some (.ref 42), some (.int v1), some (.int v2), z3, z4], [.int (v2 - (1 : Int32)), .ref 47], M)) (by decide +kernel) (hO := mm_own_150) rfl ?_
    exact (ms_150_j78 hd h hA : mp_150_78 L xs (d + 1) v1 (v2 - (1 : Int32)) M o) (some (.int v2)) z3 z4
  · replace h := mm_iq hc h
    refine mm_Runs.seq (l := [(72, .aload_n 0, 1), (73, .getfield 124, 3), (76, .iconst 1, 1), (77, .isub, 1)]) (S2 := (78, [some (.ref 42), some (.int v1), some (.int v2), z3, z4], [.int ((M.1 42 12) - (1 : Int32)), .ref 47], M)) (by decide +kernel) (hO := mm_own_150) rfl ?_
    exact (ms_150_j78 hd h hA : mp_150_78 L xs (d + 1) v1 ((M.1 42 12) - (1 : Int32)) M o) (some (.int v2)) z3 z4
noncomputable def mf_150_b31 (v1 : Int32) (M : mm_M) : mm_O ((Int32) ⊕ (Unit)) := if v1 < (M.1 42 12) then (if mm_in v1 12500 then if (M.1 8 v1.toNatClampNeg) = 0 then (mf_150_j58 v1 (M.1 8 v1.toNatClampNeg) (mm_pi M 42 10 v1)) else (mf_150_j58 v1 (M.1 8 v1.toNatClampNeg) M) else none) else (some (.inl (.inr ()), M))
noncomputable def mf_150_L31 (s : Int32) (M : mm_M) : mm_O (Unit) := mm_L (fun s M => mf_150_b31 s M) s M
set_option maxRecDepth 8000 in
set_option maxHeartbeats 4000000 in
theorem ms_150_b31 {L : Nat} {xs : Nat → Int32} {d : Nat} (hd : 4 ≤ d) {v1 : Int32} {M : mm_M} {q : (((Int32) ⊕ (Unit)) ⊕ Nat) × mm_M} {o : mm_E} (h : mf_150_b31 v1 M = some q) (hA : mm_A (mm_K2 (fun s M o => mp_150_31 L xs (d) s M o) (fun r M o => mp_150_137 L xs (d) M o)) q o) : mp_150_31 L xs d v1 M o := by
  unfold mf_150_b31 at h
  obtain ⟨d, rfl⟩ := mm_d1 (n := 3) hd
  intro z2 z3 z4
  show mm_Runs L xs (d + 1) 150 (31, [some (.ref 42), some (.int v1), z2, z3, z4], [], M) o
  refine mm_Runs.seq (l := [(31, .iload_n 1, 1), (32, .aload_n 0, 1), (33, .getfield 124, 3)]) (S2 := (36, [some (.ref 42), some (.int v1), z2, z3, z4], [.int (M.1 42 12), .int v1], M)) (by decide +kernel) (hO := mm_own_150) rfl ?_
  refine mm_R_ige (t := 137) rfl rfl rfl (fun hc => ?_) (fun hc => ?_)
  · replace h := mm_ip hc h
    refine mm_Runs.seq (l := [(39, .aload_n 0, 1), (40, .getfield 48, 3), (43, .getfield 202, 3), (46, .iload_n 1, 1)]) (S2 := (47, [some (.ref 42), some (.int v1), z2, z3, z4], [.int v1, .ref 8], M)) (by decide +kernel) (hO := mm_own_150) rfl ?_
    obtain ⟨hb, h⟩ := mm_gd h
    refine mm_R_iald rfl rfl hb ?_
    refine mm_Runs.seq (l := [(48, .istore_n 2, 1), (49, .iload_n 2, 1)]) (S2 := (50, [some (.ref 42), some (.int v1), some (.int (M.1 8 v1.toNatClampNeg)), z3, z4], [.int (M.1 8 v1.toNatClampNeg)], M)) (by decide +kernel) (hO := mm_own_150) rfl ?_
    refine mm_R_zne (t := 58) rfl rfl rfl (fun hc => ?_) (fun hc => ?_)
    · replace h := mm_ip hc h
      refine mm_Runs.seq (l := [(53, .aload_n 0, 1), (54, .iload_n 1, 1), (55, .putfield 108, 3)]) (S2 := (58, [some (.ref 42), some (.int v1), some (.int (M.1 8 v1.toNatClampNeg)), z3, z4], [], (mm_pi M 42 10 v1))) (by decide +kernel) (hO := mm_own_150) rfl ?_
      exact (ms_150_j58 hd h hA : mp_150_58 L xs (d + 1) v1 (M.1 8 v1.toNatClampNeg) (mm_pi M 42 10 v1) o) z3 z4
    · replace h := mm_iq hc h
      exact (ms_150_j58 hd h hA : mp_150_58 L xs (d + 1) v1 (M.1 8 v1.toNatClampNeg) M o) z3 z4
  · replace h := mm_iq hc h
    cases h
    exact (show mp_150_137 L xs (d + 1) M o from hA) (some (.int v1)) z2 z3 z4
theorem ms_150_L31 {L : Nat} {xs : Nat → Int32} {d : Nat} (hd : 4 ≤ d) {v1 : Int32} {β : Type} {K : β → mm_M → mm_E → Prop} {F : (Unit) → mm_M → mm_O β} {M : mm_M} {q : (β ⊕ Nat) × mm_M} {o : mm_E} (h : mm_B (mf_150_L31 v1 M) F = some q) (hA : mm_A K q o) (hx : ∀ (r : (Unit)) (M2 : mm_M), F r M2 = some q → (fun r M o => mp_150_137 L xs (d) M o) r M2 o) : mp_150_31 L xs d v1 M o := mm_R_loop (s := v1) (M := M) (P := (fun s M o => mp_150_31 L xs (d) s M o)) (X := (fun r M o => mp_150_137 L xs (d) M o)) h hA (fun s M q hq hA => ms_150_b31 hd hq hA) hx
noncomputable def mf_150_j137 (M : mm_M) : mm_O Unit := mm_B (mf_154 M) (fun _ M1 => mm_B (mf_153 ((M1.1 42 9) + (1 : Int32)) M1) (fun _ M2 => some (.inl (), M2)))
set_option maxRecDepth 8000 in
set_option maxHeartbeats 4000000 in
theorem ms_150_j137 {L : Nat} {xs : Nat → Int32} {d : Nat} (hd : 4 ≤ d) {M : mm_M} {q : (Unit ⊕ Nat) × mm_M} {o : mm_E} (h : mf_150_j137 M = some q) (hA : mm_A (mm_Kr mm_wv) q o) : mp_150_137 L xs d M o := by
  unfold mf_150_j137 at h
  obtain ⟨d, rfl⟩ := mm_d1 (n := 3) hd
  intro z1 z2 z3 z4
  show mm_Runs L xs (d + 1) 150 (137, [some (.ref 42), z1, z2, z3, z4], [], M) o
  refine mm_Runs.seq (l := [(137, .aload_n 0, 1)]) (S2 := (138, [some (.ref 42), z1, z2, z3, z4], [.ref 42], M)) (by decide +kernel) (hO := mm_own_150) rfl ?_
  refine mm_R_call (v := mm_wv) h hA (k2 := 154) (as := [.ref 42]) (r := []) rfl (fun _ => rfl) (fun q hq o ho => ms_154 (by omega) hq ho) (fun _ M1 h => ?_)
  show mm_Runs L xs (d + 1) 150 (141, [some (.ref 42), z1, z2, z3, z4], [], M1) o
  refine mm_Runs.seq (l := [(141, .aload_n 0, 1), (142, .aload_n 0, 1), (143, .getfield 125, 3), (146, .iconst 1, 1), (147, .iadd, 1)]) (S2 := (148, [some (.ref 42), z1, z2, z3, z4], [.int ((M1.1 42 9) + (1 : Int32)), .ref 42], M1)) (by decide +kernel) (hO := mm_own_150) rfl ?_
  refine mm_R_call (v := mm_wv) h hA (k2 := 153) (as := [.ref 42, .int ((M1.1 42 9) + (1 : Int32))]) (r := []) rfl (fun _ => rfl) (fun q hq o ho => ms_153 (by omega) hq ho) (fun _ M2 h => ?_)
  show mm_Runs L xs (d + 1) 150 (151, [some (.ref 42), z1, z2, z3, z4], [], M2) o
  cases h
  exact mm_R_retv rfl rfl hA
noncomputable def mf_150 (M : mm_M) : mm_O Unit := mm_B (mf_66 47 16384 (M.1 42 12) M) (fun _ M1 => mm_B (mf_151 M1) (fun _ M2 => mm_B (mf_150_L31 (0 : Int32) (mm_pi (mm_pi M2 42 15 (0 : Int32)) 42 16 (0 : Int32))) (fun r4 M3 => mf_150_j137 M3)))
set_option maxRecDepth 8000 in
set_option maxHeartbeats 4000000 in
theorem ms_150 {L : Nat} {xs : Nat → Int32} {d : Nat} (hd : 4 ≤ d) {M : mm_M} {q : (Unit ⊕ Nat) × mm_M} {o : mm_E} (h : mf_150 M = some q) (hA : mm_A (mm_Kr mm_wv) q o) : mm_Runs L xs d 150 (0, mm_ent (mm_ml 150) [.ref 42], [], M) o := by
  unfold mf_150 at h
  obtain ⟨d, rfl⟩ := mm_d1 (n := 3) hd
  show mm_Runs L xs (d + 1) 150 (0, [some (.ref 42), none, none, none, none], [], M) o
  refine mm_Runs.seq (l := [(0, .aload_n 0, 1), (1, .getfield 48, 3), (4, .aload_n 0, 1), (5, .getfield 27, 3), (8, .aload_n 0, 1), (9, .getfield 124, 3)]) (S2 := (12, [some (.ref 42), none, none, none, none], [.int (M.1 42 12), .ref 47, .ref 7], M)) (by decide +kernel) (hO := mm_own_150) rfl ?_
  refine mm_R_call (v := mm_wv) h hA (k2 := 66) (as := [.ref 7, .ref 47, .int (M.1 42 12)]) (r := []) rfl (fun _ => rfl) (fun q hq o ho => ms_66 rfl (by omega) hq ho) (fun _ M1 h => ?_)
  show mm_Runs L xs (d + 1) 150 (15, [some (.ref 42), none, none, none, none], [], M1) o
  refine mm_Runs.seq (l := [(15, .aload_n 0, 1)]) (S2 := (16, [some (.ref 42), none, none, none, none], [.ref 42], M1)) (by decide +kernel) (hO := mm_own_150) rfl ?_
  refine mm_R_call (v := mm_wv) h hA (k2 := 151) (as := [.ref 42]) (r := []) rfl (fun _ => rfl) (fun q hq o ho => ms_151 (by omega) hq ho) (fun _ M2 h => ?_)
  show mm_Runs L xs (d + 1) 150 (19, [some (.ref 42), none, none, none, none], [], M2) o
  refine mm_Runs.seq (l := [(19, .aload_n 0, 1), (20, .iconst 0, 1), (21, .putfield 196, 3), (24, .aload_n 0, 1), (25, .iconst 0, 1), (26, .putfield 199, 3), (29, .iconst 0, 1), (30, .istore_n 1, 1)]) (S2 := (31, [some (.ref 42), some (.int (0 : Int32)), none, none, none], [], (mm_pi (mm_pi M2 42 15 (0 : Int32)) 42 16 (0 : Int32)))) (by decide +kernel) (hO := mm_own_150) rfl ?_
  have hp : mp_150_31 L xs (d + 1) (0 : Int32) (mm_pi (mm_pi M2 42 15 (0 : Int32)) 42 16 (0 : Int32)) o := by
    refine ms_150_L31 hd h hA (fun r4 M3 h => ?_)
    intro y5 y6 y7 y8
    show mm_Runs L xs (d + 1) 150 (137, [some (.ref 42), y5, y6, y7, y8], [], M3) o
    exact (ms_150_j137 hd h hA : mp_150_137 L xs (d + 1) M3 o) y5 y6 y7 y8
  exact hp none none none
-- 157: PlainPacks$Sorted.anyOfSixteen(I)Z (depth 0)
theorem mm_own_157 : mm_own 157 = 10 := rfl
def mp_157_4 (L : Nat) (xs : Nat → Int32) (d : Nat) (v1 : Int32) (v2 : Int32) (v3 : Int32) (M : mm_M) (o : mm_E) : Prop := mm_Runs L xs d 157 (4, [some (.ref 42), some (.int v1), some (.int v2), some (.int v3)], [], M) o
def mp_157_38 (L : Nat) (xs : Nat → Int32) (d : Nat) (v2 : Int32) (M : mm_M) (o : mm_E) : Prop := ∀ z0 z1 z3 : Option Value, mm_Runs L xs d 157 (38, [z0, z1, some (.int v2), z3], [], M) o
noncomputable def mf_157_b4 (v1 : Int32) (v2 : Int32) (v3 : Int32) (M : mm_M) : mm_O ((Int32 × Int32) ⊕ (Int32)) := if v3 < (16 : Int32) then (if mm_in (((16 : Int32) * v1) + v3) 257 then if 0 < (M.1 49 (((16 : Int32) * v1) + v3).toNatClampNeg) then (some (.inl (.inl ((v2 ||| (1 : Int32)), (v3 + (1 : Int32)))), M)) else (some (.inl (.inl ((v2 ||| (0 : Int32)), (v3 + (1 : Int32)))), M)) else none) else (some (.inl (.inr v2), M))
noncomputable def mf_157_L4 (v1 : Int32) (s : Int32 × Int32) (M : mm_M) : mm_O (Int32) := mm_L (fun s M => mf_157_b4 v1 s.1 s.2 M) s M
set_option maxRecDepth 8000 in
set_option maxHeartbeats 4000000 in
theorem ms_157_b4 {L : Nat} {xs : Nat → Int32} {d : Nat} (hd : 0 ≤ d) {v1 : Int32} {v2 : Int32} {v3 : Int32} {M : mm_M} {q : (((Int32 × Int32) ⊕ (Int32)) ⊕ Nat) × mm_M} {o : mm_E} (h : mf_157_b4 v1 v2 v3 M = some q) (hA : mm_A (mm_K2 (fun s M o => mp_157_4 L xs (d) v1 s.1 s.2 M o) (fun r M o => mp_157_38 L xs (d) r M o)) q o) : mp_157_4 L xs d v1 v2 v3 M o := by
  unfold mf_157_b4 at h
  show mm_Runs L xs (d) 157 (4, [some (.ref 42), some (.int v1), some (.int v2), some (.int v3)], [], M) o
  refine mm_Runs.seq (l := [(4, .iload_n 3, 1), (5, .bipush 16, 2)]) (S2 := (7, [some (.ref 42), some (.int v1), some (.int v2), some (.int v3)], [.int (16 : Int32), .int v3], M)) (by decide +kernel) (hO := mm_own_157) rfl ?_
  refine mm_R_ige (t := 38) rfl rfl rfl (fun hc => ?_) (fun hc => ?_)
  · replace h := mm_ip hc h
    refine mm_Runs.seq (l := [(10, .iload_n 2, 1), (11, .aload_n 0, 1), (12, .getfield 33, 3), (15, .bipush 16, 2), (17, .iload_n 1, 1), (18, .imul, 1), (19, .iload_n 3, 1), (20, .iadd, 1)]) (S2 := (21, [some (.ref 42), some (.int v1), some (.int v2), some (.int v3)], [.int (((16 : Int32) * v1) + v3), .ref 49, .int v2], M)) (by decide +kernel) (hO := mm_own_157) rfl ?_
    obtain ⟨hb, h⟩ := mm_gd h
    refine mm_R_iald rfl rfl hb ?_
    refine mm_R_zle (t := 29) rfl rfl rfl (fun hc => ?_) (fun hc => ?_)
    · replace h := mm_ip hc h
      refine mm_Runs.seq (l := [(25, .iconst 1, 1), (26, .goto 4, 3), (30, .ior, 1), (31, .istore_n 2, 1), (32, .iinc 3 1, 3), (35, .goto (-31), 3)]) (S2 := (4, [some (.ref 42), some (.int v1), some (.int (v2 ||| (1 : Int32))), some (.int (v3 + (1 : Int32)))], [], M)) (by decide +kernel) (hO := mm_own_157) rfl ?_
      cases h
      exact (show mp_157_4 L xs (d) v1 (v2 ||| (1 : Int32)) (v3 + (1 : Int32)) M o from hA)
    · replace h := mm_iq hc h
      refine mm_Runs.seq (l := [(29, .iconst 0, 1), (30, .ior, 1), (31, .istore_n 2, 1), (32, .iinc 3 1, 3), (35, .goto (-31), 3)]) (S2 := (4, [some (.ref 42), some (.int v1), some (.int (v2 ||| (0 : Int32))), some (.int (v3 + (1 : Int32)))], [], M)) (by decide +kernel) (hO := mm_own_157) rfl ?_
      cases h
      exact (show mp_157_4 L xs (d) v1 (v2 ||| (0 : Int32)) (v3 + (1 : Int32)) M o from hA)
  · replace h := mm_iq hc h
    cases h
    exact (show mp_157_38 L xs (d) v2 M o from hA) (some (.ref 42)) (some (.int v1)) (some (.int v3))
theorem ms_157_L4 {L : Nat} {xs : Nat → Int32} {d : Nat} (hd : 0 ≤ d) {v1 : Int32} {v2 : Int32} {v3 : Int32} {β : Type} {K : β → mm_M → mm_E → Prop} {F : (Int32) → mm_M → mm_O β} {M : mm_M} {q : (β ⊕ Nat) × mm_M} {o : mm_E} (h : mm_B (mf_157_L4 v1 (v2, v3) M) F = some q) (hA : mm_A K q o) (hx : ∀ (r : (Int32)) (M2 : mm_M), F r M2 = some q → (fun r M o => mp_157_38 L xs (d) r M o) r M2 o) : mp_157_4 L xs d v1 v2 v3 M o := mm_R_loop (s := (v2, v3)) (M := M) (P := (fun s M o => mp_157_4 L xs (d) v1 s.1 s.2 M o)) (X := (fun r M o => mp_157_38 L xs (d) r M o)) h hA (fun s M q hq hA => ms_157_b4 hd hq hA) hx
noncomputable def mf_157 (v1 : Int32) (M : mm_M) : mm_O Int32 := mm_B (mf_157_L4 v1 ((0 : Int32), (0 : Int32)) M) (fun r2 M1 => if r2 == 0 || r2 == 1 then some (.inl r2, M1) else none)
set_option maxRecDepth 8000 in
set_option maxHeartbeats 4000000 in
theorem ms_157 {L : Nat} {xs : Nat → Int32} {d : Nat} (hd : 0 ≤ d) {v1 : Int32} {M : mm_M} {q : (Int32 ⊕ Nat) × mm_M} {o : mm_E} (h : mf_157 v1 M = some q) (hA : mm_A (mm_Kr mm_wi) q o) : mm_Runs L xs d 157 (0, mm_ent (mm_ml 157) [.ref 42, .int v1], [], M) o := by
  unfold mf_157 at h
  show mm_Runs L xs (d) 157 (0, [some (.ref 42), some (.int v1), none, none], [], M) o
  refine mm_Runs.seq (l := [(0, .iconst 0, 1), (1, .istore_n 2, 1), (2, .iconst 0, 1), (3, .istore_n 3, 1)]) (S2 := (4, [some (.ref 42), some (.int v1), some (.int (0 : Int32)), some (.int (0 : Int32))], [], M)) (by decide +kernel) (hO := mm_own_157) rfl ?_
  have hp : mp_157_4 L xs (d) v1 (0 : Int32) (0 : Int32) M o := by
    refine ms_157_L4 hd h hA (fun r2 M1 h => ?_)
    intro y3 y4 y5
    show mm_Runs L xs (d) 157 (38, [y3, y4, some (.int r2), y5], [], M1) o
    refine mm_Runs.seq (l := [(38, .iload_n 2, 1)]) (S2 := (39, [y3, y4, some (.int r2), y5], [.int r2], M1)) (by decide +kernel) (hO := mm_own_157) rfl ?_
    obtain ⟨hb, h⟩ := mm_gd h
    cases h
    exact mm_R_retb rfl rfl hb hA
  exact hp
-- 156: PlainPacks$Sorted.writeOccurring()V (depth 2)
theorem mm_own_156 : mm_own 156 = 10 := rfl
def mp_156_2 (L : Nat) (xs : Nat → Int32) (d : Nat) (v1 : Int32) (M : mm_M) (o : mm_E) : Prop := ∀ z2 : Option Value, mm_Runs L xs d 156 (2, [some (.ref 42), some (.int v1), z2], [], M) o
def mp_156_34 (L : Nat) (xs : Nat → Int32) (d : Nat) (M : mm_M) (o : mm_E) : Prop := ∀ z1 z2 : Option Value, mm_Runs L xs d 156 (34, [some (.ref 42), z1, z2], [], M) o
def mp_156_25 (L : Nat) (xs : Nat → Int32) (d : Nat) (v1 : Int32) (s1 : Int32) (M : mm_M) (o : mm_E) : Prop := ∀ z2 : Option Value, mm_Runs L xs d 156 (25, [some (.ref 42), some (.int v1), z2], [.int s1, .ref 5], M) o
noncomputable def mf_156_j25 (v1 : Int32) (s1 : Int32) (M : mm_M) : mm_O ((Int32) ⊕ (Unit)) := mm_B (mf_61 s1 M) (fun _ M1 => some (.inl (.inl (v1 + (1 : Int32))), M1))
set_option maxRecDepth 8000 in
set_option maxHeartbeats 4000000 in
theorem ms_156_j25 {L : Nat} {xs : Nat → Int32} {d : Nat} (hd : 2 ≤ d) {v1 : Int32} {s1 : Int32} {M : mm_M} {q : (((Int32) ⊕ (Unit)) ⊕ Nat) × mm_M} {o : mm_E} (h : mf_156_j25 v1 s1 M = some q) (hA : mm_A (mm_K2 (fun s M o => mp_156_2 L xs (d) s M o) (fun r M o => mp_156_34 L xs (d) M o)) q o) : mp_156_25 L xs d v1 s1 M o := by
  unfold mf_156_j25 at h
  obtain ⟨d, rfl⟩ := mm_d1 (n := 1) hd
  intro z2
  show mm_Runs L xs (d + 1) 156 (25, [some (.ref 42), some (.int v1), z2], [.int s1, .ref 5], M) o
  refine mm_R_call (v := mm_wv) h hA (k2 := 61) (as := [.ref 5, .int s1]) (r := []) rfl (fun _ => rfl) (fun q hq o ho => ms_61 (by omega) hq ho) (fun _ M1 h => ?_)
  show mm_Runs L xs (d + 1) 156 (28, [some (.ref 42), some (.int v1), z2], [], M1) o
  refine mm_Runs.seq (l := [(28, .iinc 1 1, 3), (31, .goto (-29), 3)]) (S2 := (2, [some (.ref 42), some (.int (v1 + (1 : Int32))), z2], [], M1)) (by decide +kernel) (hO := mm_own_156) rfl ?_
  cases h
  exact (show mp_156_2 L xs (d + 1) (v1 + (1 : Int32)) M1 o from hA) z2
noncomputable def mf_156_b2 (v1 : Int32) (M : mm_M) : mm_O ((Int32) ⊕ (Unit)) := if v1 < (16 : Int32) then (mm_B (mf_157 v1 M) (fun r1 M2 => if r1 = 0 then (mf_156_j25 v1 (0 : Int32) M2) else (mf_156_j25 v1 (1 : Int32) M2))) else (some (.inl (.inr ()), M))
noncomputable def mf_156_L2 (s : Int32) (M : mm_M) : mm_O (Unit) := mm_L (fun s M => mf_156_b2 s M) s M
set_option maxRecDepth 8000 in
set_option maxHeartbeats 4000000 in
theorem ms_156_b2 {L : Nat} {xs : Nat → Int32} {d : Nat} (hd : 2 ≤ d) {v1 : Int32} {M : mm_M} {q : (((Int32) ⊕ (Unit)) ⊕ Nat) × mm_M} {o : mm_E} (h : mf_156_b2 v1 M = some q) (hA : mm_A (mm_K2 (fun s M o => mp_156_2 L xs (d) s M o) (fun r M o => mp_156_34 L xs (d) M o)) q o) : mp_156_2 L xs d v1 M o := by
  unfold mf_156_b2 at h
  obtain ⟨d, rfl⟩ := mm_d1 (n := 1) hd
  intro z2
  show mm_Runs L xs (d + 1) 156 (2, [some (.ref 42), some (.int v1), z2], [], M) o
  refine mm_Runs.seq (l := [(2, .iload_n 1, 1), (3, .bipush 16, 2)]) (S2 := (5, [some (.ref 42), some (.int v1), z2], [.int (16 : Int32), .int v1], M)) (by decide +kernel) (hO := mm_own_156) rfl ?_
  refine mm_R_ige (t := 34) rfl rfl rfl (fun hc => ?_) (fun hc => ?_)
  · replace h := mm_ip hc h
    refine mm_Runs.seq (l := [(8, .aload_n 0, 1), (9, .getfield 44, 3), (12, .aload_n 0, 1), (13, .iload_n 1, 1)]) (S2 := (14, [some (.ref 42), some (.int v1), z2], [.int v1, .ref 42, .ref 5], M)) (by decide +kernel) (hO := mm_own_156) rfl ?_
    refine mm_R_call (v := mm_wi) h hA (k2 := 157) (as := [.ref 42, .int v1]) (r := [.ref 5]) rfl (fun _ => rfl) (fun q hq o ho => ms_157 (by omega) hq ho) (fun r1 M2 h => ?_)
    show mm_Runs L xs (d + 1) 156 (17, [some (.ref 42), some (.int v1), z2], [.int r1, .ref 5], M2) o
    refine mm_R_zeq (t := 24) rfl rfl rfl (fun hc => ?_) (fun hc => ?_)
    · replace h := mm_ip hc h
      refine mm_Runs.seq (l := [(24, .iconst 0, 1)]) (S2 := (25, [some (.ref 42), some (.int v1), z2], [.int (0 : Int32), .ref 5], M2)) (by decide +kernel) (hO := mm_own_156) rfl ?_
      exact (ms_156_j25 hd h hA : mp_156_25 L xs (d + 1) v1 (0 : Int32) M2 o) z2
    · replace h := mm_iq hc h
      refine mm_Runs.seq (l := [(20, .iconst 1, 1), (21, .goto 4, 3)]) (S2 := (25, [some (.ref 42), some (.int v1), z2], [.int (1 : Int32), .ref 5], M2)) (by decide +kernel) (hO := mm_own_156) rfl ?_
      exact (ms_156_j25 hd h hA : mp_156_25 L xs (d + 1) v1 (1 : Int32) M2 o) z2
  · replace h := mm_iq hc h
    cases h
    exact (show mp_156_34 L xs (d + 1) M o from hA) (some (.int v1)) z2
theorem ms_156_L2 {L : Nat} {xs : Nat → Int32} {d : Nat} (hd : 2 ≤ d) {v1 : Int32} {β : Type} {K : β → mm_M → mm_E → Prop} {F : (Unit) → mm_M → mm_O β} {M : mm_M} {q : (β ⊕ Nat) × mm_M} {o : mm_E} (h : mm_B (mf_156_L2 v1 M) F = some q) (hA : mm_A K q o) (hx : ∀ (r : (Unit)) (M2 : mm_M), F r M2 = some q → (fun r M o => mp_156_34 L xs (d) M o) r M2 o) : mp_156_2 L xs d v1 M o := mm_R_loop (s := v1) (M := M) (P := (fun s M o => mp_156_2 L xs (d) s M o)) (X := (fun r M o => mp_156_34 L xs (d) M o)) h hA (fun s M q hq hA => ms_156_b2 hd hq hA) hx
def mp_156_36 (L : Nat) (xs : Nat → Int32) (d : Nat) (v1 : Int32) (M : mm_M) (o : mm_E) : Prop := ∀ z2 : Option Value, mm_Runs L xs d 156 (36, [some (.ref 42), some (.int v1), z2], [], M) o
def mp_156_96 (L : Nat) (xs : Nat → Int32) (d : Nat) (M : mm_M) (o : mm_E) : Prop := ∀ z0 z1 z2 : Option Value, mm_Runs L xs d 156 (96, [z0, z1, z2], [], M) o
def mp_156_44 (L : Nat) (xs : Nat → Int32) (d : Nat) (v1 : Int32) (v2 : Int32) (M : mm_M) (o : mm_E) : Prop := mm_Runs L xs d 156 (44, [some (.ref 42), some (.int v1), some (.int v2)], [], M) o
def mp_156_90 (L : Nat) (xs : Nat → Int32) (d : Nat) (v1 : Int32) (M : mm_M) (o : mm_E) : Prop := ∀ z2 : Option Value, mm_Runs L xs d 156 (90, [some (.ref 42), some (.int v1), z2], [], M) o
def mp_156_81 (L : Nat) (xs : Nat → Int32) (d : Nat) (v1 : Int32) (v2 : Int32) (s1 : Int32) (M : mm_M) (o : mm_E) : Prop := mm_Runs L xs d 156 (81, [some (.ref 42), some (.int v1), some (.int v2)], [.int s1, .ref 5], M) o
noncomputable def mf_156_j81 (v1 : Int32) (v2 : Int32) (s1 : Int32) (M : mm_M) : mm_O ((Int32) ⊕ (Unit)) := mm_B (mf_61 s1 M) (fun _ M1 => some (.inl (.inl (v2 + (1 : Int32))), M1))
set_option maxRecDepth 8000 in
set_option maxHeartbeats 4000000 in
theorem ms_156_j81 {L : Nat} {xs : Nat → Int32} {d : Nat} (hd : 2 ≤ d) {v1 : Int32} {v2 : Int32} {s1 : Int32} {M : mm_M} {q : (((Int32) ⊕ (Unit)) ⊕ Nat) × mm_M} {o : mm_E} (h : mf_156_j81 v1 v2 s1 M = some q) (hA : mm_A (mm_K2 (fun s M o => mp_156_44 L xs (d) v1 s M o) (fun r M o => mp_156_90 L xs (d) v1 M o)) q o) : mp_156_81 L xs d v1 v2 s1 M o := by
  unfold mf_156_j81 at h
  obtain ⟨d, rfl⟩ := mm_d1 (n := 1) hd
  show mm_Runs L xs (d + 1) 156 (81, [some (.ref 42), some (.int v1), some (.int v2)], [.int s1, .ref 5], M) o
  refine mm_R_call (v := mm_wv) h hA (k2 := 61) (as := [.ref 5, .int s1]) (r := []) rfl (fun _ => rfl) (fun q hq o ho => ms_61 (by omega) hq ho) (fun _ M1 h => ?_)
  show mm_Runs L xs (d + 1) 156 (84, [some (.ref 42), some (.int v1), some (.int v2)], [], M1) o
  refine mm_Runs.seq (l := [(84, .iinc 2 1, 3), (87, .goto (-43), 3)]) (S2 := (44, [some (.ref 42), some (.int v1), some (.int (v2 + (1 : Int32)))], [], M1)) (by decide +kernel) (hO := mm_own_156) rfl ?_
  cases h
  exact (show mp_156_44 L xs (d + 1) v1 (v2 + (1 : Int32)) M1 o from hA)
noncomputable def mf_156_b44 (v1 : Int32) (v2 : Int32) (M : mm_M) : mm_O ((Int32) ⊕ (Unit)) := if v2 < (16 : Int32) then (mm_B (mf_157 v1 M) (fun r1 M2 => if r1 = 0 then (some (.inl (.inr ()), M2)) else (if mm_in (((16 : Int32) * v1) + v2) 257 then if 0 < (M2.1 49 (((16 : Int32) * v1) + v2).toNatClampNeg) then (mf_156_j81 v1 v2 (1 : Int32) M2) else (mf_156_j81 v1 v2 (0 : Int32) M2) else none))) else (some (.inl (.inr ()), M))
noncomputable def mf_156_L44 (v1 : Int32) (s : Int32) (M : mm_M) : mm_O (Unit) := mm_L (fun s M => mf_156_b44 v1 s M) s M
set_option maxRecDepth 8000 in
set_option maxHeartbeats 4000000 in
theorem ms_156_b44 {L : Nat} {xs : Nat → Int32} {d : Nat} (hd : 2 ≤ d) {v1 : Int32} {v2 : Int32} {M : mm_M} {q : (((Int32) ⊕ (Unit)) ⊕ Nat) × mm_M} {o : mm_E} (h : mf_156_b44 v1 v2 M = some q) (hA : mm_A (mm_K2 (fun s M o => mp_156_44 L xs (d) v1 s M o) (fun r M o => mp_156_90 L xs (d) v1 M o)) q o) : mp_156_44 L xs d v1 v2 M o := by
  unfold mf_156_b44 at h
  obtain ⟨d, rfl⟩ := mm_d1 (n := 1) hd
  show mm_Runs L xs (d + 1) 156 (44, [some (.ref 42), some (.int v1), some (.int v2)], [], M) o
  refine mm_Runs.seq (l := [(44, .iload_n 2, 1), (45, .bipush 16, 2)]) (S2 := (47, [some (.ref 42), some (.int v1), some (.int v2)], [.int (16 : Int32), .int v2], M)) (by decide +kernel) (hO := mm_own_156) rfl ?_
  refine mm_R_ige (t := 90) rfl rfl rfl (fun hc => ?_) (fun hc => ?_)
  · replace h := mm_ip hc h
    refine mm_Runs.seq (l := [(50, .aload_n 0, 1), (51, .iload_n 1, 1)]) (S2 := (52, [some (.ref 42), some (.int v1), some (.int v2)], [.int v1, .ref 42], M)) (by decide +kernel) (hO := mm_own_156) rfl ?_
    refine mm_R_call (v := mm_wi) h hA (k2 := 157) (as := [.ref 42, .int v1]) (r := []) rfl (fun _ => rfl) (fun q hq o ho => ms_157 (by omega) hq ho) (fun r1 M2 h => ?_)
    show mm_Runs L xs (d + 1) 156 (55, [some (.ref 42), some (.int v1), some (.int v2)], [.int r1], M2) o
    refine mm_R_zeq (t := 90) rfl rfl rfl (fun hc => ?_) (fun hc => ?_)
    · replace h := mm_ip hc h
      cases h
      exact (show mp_156_90 L xs (d + 1) v1 M2 o from hA) (some (.int v2))
    · replace h := mm_iq hc h
      refine mm_Runs.seq (l := [(58, .aload_n 0, 1), (59, .getfield 44, 3), (62, .aload_n 0, 1), (63, .getfield 33, 3), (66, .bipush 16, 2), (68, .iload_n 1, 1), (69, .imul, 1), (70, .iload_n 2, 1), (71, .iadd, 1)]) (S2 := (72, [some (.ref 42), some (.int v1), some (.int v2)], [.int (((16 : Int32) * v1) + v2), .ref 49, .ref 5], M2)) (by decide +kernel) (hO := mm_own_156) rfl ?_
      obtain ⟨hb, h⟩ := mm_gd h
      refine mm_R_iald rfl rfl hb ?_
      refine mm_R_zle (t := 80) rfl rfl rfl (fun hc => ?_) (fun hc => ?_)
      · replace h := mm_ip hc h
        refine mm_Runs.seq (l := [(76, .iconst 1, 1), (77, .goto 4, 3)]) (S2 := (81, [some (.ref 42), some (.int v1), some (.int v2)], [.int (1 : Int32), .ref 5], M2)) (by decide +kernel) (hO := mm_own_156) rfl ?_
        exact (ms_156_j81 hd h hA : mp_156_81 L xs (d + 1) v1 v2 (1 : Int32) M2 o)
      · replace h := mm_iq hc h
        refine mm_Runs.seq (l := [(80, .iconst 0, 1)]) (S2 := (81, [some (.ref 42), some (.int v1), some (.int v2)], [.int (0 : Int32), .ref 5], M2)) (by decide +kernel) (hO := mm_own_156) rfl ?_
        exact (ms_156_j81 hd h hA : mp_156_81 L xs (d + 1) v1 v2 (0 : Int32) M2 o)
  · replace h := mm_iq hc h
    cases h
    exact (show mp_156_90 L xs (d + 1) v1 M o from hA) (some (.int v2))
theorem ms_156_L44 {L : Nat} {xs : Nat → Int32} {d : Nat} (hd : 2 ≤ d) {v1 : Int32} {v2 : Int32} {β : Type} {K : β → mm_M → mm_E → Prop} {F : (Unit) → mm_M → mm_O β} {M : mm_M} {q : (β ⊕ Nat) × mm_M} {o : mm_E} (h : mm_B (mf_156_L44 v1 v2 M) F = some q) (hA : mm_A K q o) (hx : ∀ (r : (Unit)) (M2 : mm_M), F r M2 = some q → (fun r M o => mp_156_90 L xs (d) v1 M o) r M2 o) : mp_156_44 L xs d v1 v2 M o := mm_R_loop (s := v2) (M := M) (P := (fun s M o => mp_156_44 L xs (d) v1 s M o)) (X := (fun r M o => mp_156_90 L xs (d) v1 M o)) h hA (fun s M q hq hA => ms_156_b44 hd hq hA) hx
noncomputable def mf_156_b36 (v1 : Int32) (M : mm_M) : mm_O ((Int32) ⊕ (Unit)) := if v1 < (16 : Int32) then (mm_B (mf_156_L44 v1 (0 : Int32) M) (fun r2 M1 => some (.inl (.inl (v1 + (1 : Int32))), M1))) else (some (.inl (.inr ()), M))
noncomputable def mf_156_L36 (s : Int32) (M : mm_M) : mm_O (Unit) := mm_L (fun s M => mf_156_b36 s M) s M
set_option maxRecDepth 8000 in
set_option maxHeartbeats 4000000 in
theorem ms_156_b36 {L : Nat} {xs : Nat → Int32} {d : Nat} (hd : 2 ≤ d) {v1 : Int32} {M : mm_M} {q : (((Int32) ⊕ (Unit)) ⊕ Nat) × mm_M} {o : mm_E} (h : mf_156_b36 v1 M = some q) (hA : mm_A (mm_K2 (fun s M o => mp_156_36 L xs (d) s M o) (fun r M o => mp_156_96 L xs (d) M o)) q o) : mp_156_36 L xs d v1 M o := by
  unfold mf_156_b36 at h
  obtain ⟨d, rfl⟩ := mm_d1 (n := 1) hd
  intro z2
  show mm_Runs L xs (d + 1) 156 (36, [some (.ref 42), some (.int v1), z2], [], M) o
  refine mm_Runs.seq (l := [(36, .iload_n 1, 1), (37, .bipush 16, 2)]) (S2 := (39, [some (.ref 42), some (.int v1), z2], [.int (16 : Int32), .int v1], M)) (by decide +kernel) (hO := mm_own_156) rfl ?_
  refine mm_R_ige (t := 96) rfl rfl rfl (fun hc => ?_) (fun hc => ?_)
  · replace h := mm_ip hc h
    refine mm_Runs.seq (l := [(42, .iconst 0, 1), (43, .istore_n 2, 1)]) (S2 := (44, [some (.ref 42), some (.int v1), some (.int (0 : Int32))], [], M)) (by decide +kernel) (hO := mm_own_156) rfl ?_
    have hp : mp_156_44 L xs (d + 1) v1 (0 : Int32) M o := by
      refine ms_156_L44 hd h hA (fun r2 M1 h => ?_)
      intro y3
      show mm_Runs L xs (d + 1) 156 (90, [some (.ref 42), some (.int v1), y3], [], M1) o
      refine mm_Runs.seq (l := [(90, .iinc 1 1, 3), (93, .goto (-57), 3)]) (S2 := (36, [some (.ref 42), some (.int (v1 + (1 : Int32))), y3], [], M1)) (by decide +kernel) (hO := mm_own_156) rfl ?_
      cases h
      exact (show mp_156_36 L xs (d + 1) (v1 + (1 : Int32)) M1 o from hA) y3
    exact hp
  · replace h := mm_iq hc h
    cases h
    exact (show mp_156_96 L xs (d + 1) M o from hA) (some (.ref 42)) (some (.int v1)) z2
theorem ms_156_L36 {L : Nat} {xs : Nat → Int32} {d : Nat} (hd : 2 ≤ d) {v1 : Int32} {β : Type} {K : β → mm_M → mm_E → Prop} {F : (Unit) → mm_M → mm_O β} {M : mm_M} {q : (β ⊕ Nat) × mm_M} {o : mm_E} (h : mm_B (mf_156_L36 v1 M) F = some q) (hA : mm_A K q o) (hx : ∀ (r : (Unit)) (M2 : mm_M), F r M2 = some q → (fun r M o => mp_156_96 L xs (d) M o) r M2 o) : mp_156_36 L xs d v1 M o := mm_R_loop (s := v1) (M := M) (P := (fun s M o => mp_156_36 L xs (d) s M o)) (X := (fun r M o => mp_156_96 L xs (d) M o)) h hA (fun s M q hq hA => ms_156_b36 hd hq hA) hx
noncomputable def mf_156 (M : mm_M) : mm_O Unit := mm_B (mf_156_L2 (0 : Int32) M) (fun r2 M1 => mm_B (mf_156_L36 (0 : Int32) M1) (fun r6 M5 => some (.inl (), M5)))
set_option maxRecDepth 8000 in
set_option maxHeartbeats 4000000 in
theorem ms_156 {L : Nat} {xs : Nat → Int32} {d : Nat} (hd : 2 ≤ d) {M : mm_M} {q : (Unit ⊕ Nat) × mm_M} {o : mm_E} (h : mf_156 M = some q) (hA : mm_A (mm_Kr mm_wv) q o) : mm_Runs L xs d 156 (0, mm_ent (mm_ml 156) [.ref 42], [], M) o := by
  unfold mf_156 at h
  obtain ⟨d, rfl⟩ := mm_d1 (n := 1) hd
  show mm_Runs L xs (d + 1) 156 (0, [some (.ref 42), none, none], [], M) o
  refine mm_Runs.seq (l := [(0, .iconst 0, 1), (1, .istore_n 1, 1)]) (S2 := (2, [some (.ref 42), some (.int (0 : Int32)), none], [], M)) (by decide +kernel) (hO := mm_own_156) rfl ?_
  have hp : mp_156_2 L xs (d + 1) (0 : Int32) M o := by
    refine ms_156_L2 hd h hA (fun r2 M1 h => ?_)
    intro y3 y4
    show mm_Runs L xs (d + 1) 156 (34, [some (.ref 42), y3, y4], [], M1) o
    refine mm_Runs.seq (l := [(34, .iconst 0, 1), (35, .istore_n 1, 1)]) (S2 := (36, [some (.ref 42), some (.int (0 : Int32)), y4], [], M1)) (by decide +kernel) (hO := mm_own_156) rfl ?_
    have hp : mp_156_36 L xs (d + 1) (0 : Int32) M1 o := by
      refine ms_156_L36 hd h hA (fun r6 M5 h => ?_)
      intro y7 y8 y9
      show mm_Runs L xs (d + 1) 156 (96, [y7, y8, y9], [], M5) o
      cases h
      exact mm_R_retv rfl rfl hA
    exact hp y4
  exact hp none
-- 155: PlainPacks$Sorted.writeBlock(I)V (depth 3)
theorem mm_own_155 : mm_own 155 = 10 := rfl
def mp_155_86 (L : Nat) (xs : Nat → Int32) (d : Nat) (v2 : Int32) (v3 : Int32) (M : mm_M) (o : mm_E) : Prop := ∀ z1 z4 z5 : Option Value, mm_Runs L xs d 155 (86, [some (.ref 42), z1, some (.int v2), some (.int v3), z4, z5], [], M) o
def mp_155_105 (L : Nat) (xs : Nat → Int32) (d : Nat) (M : mm_M) (o : mm_E) : Prop := ∀ z1 z2 z3 z4 z5 : Option Value, mm_Runs L xs d 155 (105, [some (.ref 42), z1, z2, z3, z4, z5], [], M) o
noncomputable def mf_155_b86 (v2 : Int32) (v3 : Int32) (M : mm_M) : mm_O ((Int32) ⊕ (Unit)) := if v3 < v2 then (mm_B (mf_61 (0 : Int32) M) (fun _ M1 => some (.inl (.inl (v3 + (1 : Int32))), M1))) else (some (.inl (.inr ()), M))
noncomputable def mf_155_L86 (v2 : Int32) (s : Int32) (M : mm_M) : mm_O (Unit) := mm_L (fun s M => mf_155_b86 v2 s M) s M
set_option maxRecDepth 8000 in
set_option maxHeartbeats 4000000 in
theorem ms_155_b86 {L : Nat} {xs : Nat → Int32} {d : Nat} (hd : 3 ≤ d) {v2 : Int32} {v3 : Int32} {M : mm_M} {q : (((Int32) ⊕ (Unit)) ⊕ Nat) × mm_M} {o : mm_E} (h : mf_155_b86 v2 v3 M = some q) (hA : mm_A (mm_K2 (fun s M o => mp_155_86 L xs (d) v2 s M o) (fun r M o => mp_155_105 L xs (d) M o)) q o) : mp_155_86 L xs d v2 v3 M o := by
  unfold mf_155_b86 at h
  obtain ⟨d, rfl⟩ := mm_d1 (n := 2) hd
  intro z1 z4 z5
  show mm_Runs L xs (d + 1) 155 (86, [some (.ref 42), z1, some (.int v2), some (.int v3), z4, z5], [], M) o
  refine mm_Runs.seq (l := [(86, .iload_n 3, 1), (87, .iload_n 2, 1)]) (S2 := (88, [some (.ref 42), z1, some (.int v2), some (.int v3), z4, z5], [.int v2, .int v3], M)) (by decide +kernel) (hO := mm_own_155) rfl ?_
  refine mm_R_ige (t := 105) rfl rfl rfl (fun hc => ?_) (fun hc => ?_)
  · replace h := mm_ip hc h
    refine mm_Runs.seq (l := [(91, .aload_n 0, 1), (92, .getfield 44, 3), (95, .iconst 0, 1)]) (S2 := (96, [some (.ref 42), z1, some (.int v2), some (.int v3), z4, z5], [.int (0 : Int32), .ref 5], M)) (by decide +kernel) (hO := mm_own_155) rfl ?_
    refine mm_R_call (v := mm_wv) h hA (k2 := 61) (as := [.ref 5, .int (0 : Int32)]) (r := []) rfl (fun _ => rfl) (fun q hq o ho => ms_61 (by omega) hq ho) (fun _ M1 h => ?_)
    show mm_Runs L xs (d + 1) 155 (99, [some (.ref 42), z1, some (.int v2), some (.int v3), z4, z5], [], M1) o
    refine mm_Runs.seq (l := [(99, .iinc 3 1, 3), (102, .goto (-16), 3)]) (S2 := (86, [some (.ref 42), z1, some (.int v2), some (.int (v3 + (1 : Int32))), z4, z5], [], M1)) (by decide +kernel) (hO := mm_own_155) rfl ?_
    cases h
    exact (show mp_155_86 L xs (d + 1) v2 (v3 + (1 : Int32)) M1 o from hA) z1 z4 z5
  · replace h := mm_iq hc h
    cases h
    exact (show mp_155_105 L xs (d + 1) M o from hA) z1 (some (.int v2)) (some (.int v3)) z4 z5
theorem ms_155_L86 {L : Nat} {xs : Nat → Int32} {d : Nat} (hd : 3 ≤ d) {v2 : Int32} {v3 : Int32} {β : Type} {K : β → mm_M → mm_E → Prop} {F : (Unit) → mm_M → mm_O β} {M : mm_M} {q : (β ⊕ Nat) × mm_M} {o : mm_E} (h : mm_B (mf_155_L86 v2 v3 M) F = some q) (hA : mm_A K q o) (hx : ∀ (r : (Unit)) (M2 : mm_M), F r M2 = some q → (fun r M o => mp_155_105 L xs (d) M o) r M2 o) : mp_155_86 L xs d v2 v3 M o := mm_R_loop (s := v3) (M := M) (P := (fun s M o => mp_155_86 L xs (d) v2 s M o)) (X := (fun r M o => mp_155_105 L xs (d) M o)) h hA (fun s M q hq hA => ms_155_b86 hd hq hA) hx
def mp_155_107 (L : Nat) (xs : Nat → Int32) (d : Nat) (v3 : Int32) (M : mm_M) (o : mm_E) : Prop := ∀ z1 z2 z4 z5 : Option Value, mm_Runs L xs d 155 (107, [some (.ref 42), z1, z2, some (.int v3), z4, z5], [], M) o
def mp_155_131 (L : Nat) (xs : Nat → Int32) (d : Nat) (v3 : Int32) (M : mm_M) (o : mm_E) : Prop := ∀ z1 z2 z4 z5 : Option Value, mm_Runs L xs d 155 (131, [some (.ref 42), z1, z2, some (.int v3), z4, z5], [], M) o
noncomputable def mf_155_b107 (v3 : Int32) (M : mm_M) : mm_O ((Int32) ⊕ (Int32)) := if v3 < (20 : Int32) then (if (mm_shl (1 : Int32) v3) < ((M.1 42 9) + (2 : Int32)) then (some (.inl (.inl (v3 + (1 : Int32))), M)) else (some (.inl (.inr v3), M))) else (some (.inl (.inr v3), M))
noncomputable def mf_155_L107 (s : Int32) (M : mm_M) : mm_O (Int32) := mm_L (fun s M => mf_155_b107 s M) s M
set_option maxRecDepth 8000 in
set_option maxHeartbeats 4000000 in
theorem ms_155_b107 {L : Nat} {xs : Nat → Int32} {d : Nat} (hd : 3 ≤ d) {v3 : Int32} {M : mm_M} {q : (((Int32) ⊕ (Int32)) ⊕ Nat) × mm_M} {o : mm_E} (h : mf_155_b107 v3 M = some q) (hA : mm_A (mm_K2 (fun s M o => mp_155_107 L xs (d) s M o) (fun r M o => mp_155_131 L xs (d) r M o)) q o) : mp_155_107 L xs d v3 M o := by
  unfold mf_155_b107 at h
  obtain ⟨d, rfl⟩ := mm_d1 (n := 2) hd
  intro z1 z2 z4 z5
  show mm_Runs L xs (d + 1) 155 (107, [some (.ref 42), z1, z2, some (.int v3), z4, z5], [], M) o
  refine mm_Runs.seq (l := [(107, .iload_n 3, 1), (108, .bipush 20, 2)]) (S2 := (110, [some (.ref 42), z1, z2, some (.int v3), z4, z5], [.int (20 : Int32), .int v3], M)) (by decide +kernel) (hO := mm_own_155) rfl ?_
  refine mm_R_ige (t := 131) rfl rfl rfl (fun hc => ?_) (fun hc => ?_)
  · replace h := mm_ip hc h
    refine mm_Runs.seq (l := [(113, .iconst 1, 1), (114, .iload_n 3, 1), (115, .ishl, 1), (116, .aload_n 0, 1), (117, .getfield 125, 3), (120, .iconst 2, 1), (121, .iadd, 1)]) (S2 := (122, [some (.ref 42), z1, z2, some (.int v3), z4, z5], [.int ((M.1 42 9) + (2 : Int32)), .int (mm_shl (1 : Int32) v3)], M)) (by decide +kernel) (hO := mm_own_155) rfl ?_
    refine mm_R_ige (t := 131) rfl rfl rfl (fun hc => ?_) (fun hc => ?_)
    · replace h := mm_ip hc h
      refine mm_Runs.seq (l := [(125, .iinc 3 1, 3), (128, .goto (-21), 3)]) (S2 := (107, [some (.ref 42), z1, (mm_no2 z2), some (.int (v3 + (1 : Int32))), z4, z5], [], M)) (by decide +kernel) (hO := mm_own_155) rfl ?_
      cases h
      exact (show mp_155_107 L xs (d + 1) (v3 + (1 : Int32)) M o from hA) z1 ((mm_no2 z2)) z4 z5
    · replace h := mm_iq hc h
      cases h
      exact (show mp_155_131 L xs (d + 1) v3 M o from hA) z1 z2 z4 z5
  · replace h := mm_iq hc h
    cases h
    exact (show mp_155_131 L xs (d + 1) v3 M o from hA) z1 z2 z4 z5
theorem ms_155_L107 {L : Nat} {xs : Nat → Int32} {d : Nat} (hd : 3 ≤ d) {v3 : Int32} {β : Type} {K : β → mm_M → mm_E → Prop} {F : (Int32) → mm_M → mm_O β} {M : mm_M} {q : (β ⊕ Nat) × mm_M} {o : mm_E} (h : mm_B (mf_155_L107 v3 M) F = some q) (hA : mm_A K q o) (hx : ∀ (r : (Int32)) (M2 : mm_M), F r M2 = some q → (fun r M o => mp_155_131 L xs (d) r M o) r M2 o) : mp_155_107 L xs d v3 M o := mm_R_loop (s := v3) (M := M) (P := (fun s M o => mp_155_107 L xs (d) s M o)) (X := (fun r M o => mp_155_131 L xs (d) r M o)) h hA (fun s M q hq hA => ms_155_b107 hd hq hA) hx
def mp_155_134 (L : Nat) (xs : Nat → Int32) (d : Nat) (v3 : Int32) (v4 : Int32) (M : mm_M) (o : mm_E) : Prop := ∀ z1 z2 z5 : Option Value, mm_Runs L xs d 155 (134, [some (.ref 42), z1, z2, some (.int v3), some (.int v4), z5], [], M) o
def mp_155_184 (L : Nat) (xs : Nat → Int32) (d : Nat) (v3 : Int32) (M : mm_M) (o : mm_E) : Prop := ∀ z1 z2 z4 z5 : Option Value, mm_Runs L xs d 155 (184, [some (.ref 42), z1, z2, some (.int v3), z4, z5], [], M) o
def mp_155_153 (L : Nat) (xs : Nat → Int32) (d : Nat) (v3 : Int32) (v4 : Int32) (v5 : Int32) (M : mm_M) (o : mm_E) : Prop := ∀ z1 z2 : Option Value, mm_Runs L xs d 155 (153, [some (.ref 42), z1, z2, some (.int v3), some (.int v4), some (.int v5)], [], M) o
def mp_155_178 (L : Nat) (xs : Nat → Int32) (d : Nat) (v3 : Int32) (v4 : Int32) (M : mm_M) (o : mm_E) : Prop := ∀ z1 z2 z5 : Option Value, mm_Runs L xs d 155 (178, [some (.ref 42), z1, z2, some (.int v3), some (.int v4), z5], [], M) o
noncomputable def mf_155_b153 (v3 : Int32) (v4 : Int32) (v5 : Int32) (M : mm_M) : mm_O ((Int32) ⊕ (Unit)) := if v5 < ((M.1 42 9) + (2 : Int32)) then (mm_B (mf_61 (0 : Int32) M) (fun _ M1 => some (.inl (.inl (v5 + (1 : Int32))), M1))) else (some (.inl (.inr ()), M))
noncomputable def mf_155_L153 (v3 : Int32) (v4 : Int32) (s : Int32) (M : mm_M) : mm_O (Unit) := mm_L (fun s M => mf_155_b153 v3 v4 s M) s M
set_option maxRecDepth 8000 in
set_option maxHeartbeats 4000000 in
theorem ms_155_b153 {L : Nat} {xs : Nat → Int32} {d : Nat} (hd : 3 ≤ d) {v3 : Int32} {v4 : Int32} {v5 : Int32} {M : mm_M} {q : (((Int32) ⊕ (Unit)) ⊕ Nat) × mm_M} {o : mm_E} (h : mf_155_b153 v3 v4 v5 M = some q) (hA : mm_A (mm_K2 (fun s M o => mp_155_153 L xs (d) v3 v4 s M o) (fun r M o => mp_155_178 L xs (d) v3 v4 M o)) q o) : mp_155_153 L xs d v3 v4 v5 M o := by
  unfold mf_155_b153 at h
  obtain ⟨d, rfl⟩ := mm_d1 (n := 2) hd
  intro z1 z2
  show mm_Runs L xs (d + 1) 155 (153, [some (.ref 42), z1, z2, some (.int v3), some (.int v4), some (.int v5)], [], M) o
  refine mm_Runs.seq (l := [(153, .iload 5, 2), (155, .aload_n 0, 1), (156, .getfield 125, 3), (159, .iconst 2, 1), (160, .iadd, 1)]) (S2 := (161, [some (.ref 42), z1, z2, some (.int v3), some (.int v4), some (.int v5)], [.int ((M.1 42 9) + (2 : Int32)), .int v5], M)) (by decide +kernel) (hO := mm_own_155) rfl ?_
  refine mm_R_ige (t := 178) rfl rfl rfl (fun hc => ?_) (fun hc => ?_)
  · replace h := mm_ip hc h
    refine mm_Runs.seq (l := [(164, .aload_n 0, 1), (165, .getfield 44, 3), (168, .iconst 0, 1)]) (S2 := (169, [some (.ref 42), z1, z2, some (.int v3), some (.int v4), some (.int v5)], [.int (0 : Int32), .ref 5], M)) (by decide +kernel) (hO := mm_own_155) rfl ?_
    refine mm_R_call (v := mm_wv) h hA (k2 := 61) (as := [.ref 5, .int (0 : Int32)]) (r := []) rfl (fun _ => rfl) (fun q hq o ho => ms_61 (by omega) hq ho) (fun _ M1 h => ?_)
    show mm_Runs L xs (d + 1) 155 (172, [some (.ref 42), z1, z2, some (.int v3), some (.int v4), some (.int v5)], [], M1) o
    refine mm_Runs.seq (l := [(172, .iinc 5 1, 3), (175, .goto (-22), 3)]) (S2 := (153, [some (.ref 42), z1, z2, some (.int v3), some (.int v4), some (.int (v5 + (1 : Int32)))], [], M1)) (by decide +kernel) (hO := mm_own_155) rfl ?_
    cases h
    exact (show mp_155_153 L xs (d + 1) v3 v4 (v5 + (1 : Int32)) M1 o from hA) z1 z2
  · replace h := mm_iq hc h
    cases h
    exact (show mp_155_178 L xs (d + 1) v3 v4 M o from hA) z1 z2 (some (.int v5))
theorem ms_155_L153 {L : Nat} {xs : Nat → Int32} {d : Nat} (hd : 3 ≤ d) {v3 : Int32} {v4 : Int32} {v5 : Int32} {β : Type} {K : β → mm_M → mm_E → Prop} {F : (Unit) → mm_M → mm_O β} {M : mm_M} {q : (β ⊕ Nat) × mm_M} {o : mm_E} (h : mm_B (mf_155_L153 v3 v4 v5 M) F = some q) (hA : mm_A K q o) (hx : ∀ (r : (Unit)) (M2 : mm_M), F r M2 = some q → (fun r M o => mp_155_178 L xs (d) v3 v4 M o) r M2 o) : mp_155_153 L xs d v3 v4 v5 M o := mm_R_loop (s := v5) (M := M) (P := (fun s M o => mp_155_153 L xs (d) v3 v4 s M o)) (X := (fun r M o => mp_155_178 L xs (d) v3 v4 M o)) h hA (fun s M q hq hA => ms_155_b153 hd hq hA) hx
noncomputable def mf_155_b134 (v3 : Int32) (v4 : Int32) (M : mm_M) : mm_O ((Int32) ⊕ (Unit)) := if v4 < (2 : Int32) then (mm_B (mf_62 v3.toInt64 (5 : Int32) M) (fun _ M1 => mm_B (mf_155_L153 v3 v4 (0 : Int32) M1) (fun r3 M2 => some (.inl (.inl (v4 + (1 : Int32))), M2)))) else (some (.inl (.inr ()), M))
noncomputable def mf_155_L134 (v3 : Int32) (s : Int32) (M : mm_M) : mm_O (Unit) := mm_L (fun s M => mf_155_b134 v3 s M) s M
set_option maxRecDepth 8000 in
set_option maxHeartbeats 4000000 in
theorem ms_155_b134 {L : Nat} {xs : Nat → Int32} {d : Nat} (hd : 3 ≤ d) {v3 : Int32} {v4 : Int32} {M : mm_M} {q : (((Int32) ⊕ (Unit)) ⊕ Nat) × mm_M} {o : mm_E} (h : mf_155_b134 v3 v4 M = some q) (hA : mm_A (mm_K2 (fun s M o => mp_155_134 L xs (d) v3 s M o) (fun r M o => mp_155_184 L xs (d) v3 M o)) q o) : mp_155_134 L xs d v3 v4 M o := by
  unfold mf_155_b134 at h
  obtain ⟨d, rfl⟩ := mm_d1 (n := 2) hd
  intro z1 z2 z5
  show mm_Runs L xs (d + 1) 155 (134, [some (.ref 42), z1, z2, some (.int v3), some (.int v4), z5], [], M) o
  refine mm_Runs.seq (l := [(134, .iload 4, 2), (136, .iconst 2, 1)]) (S2 := (137, [some (.ref 42), z1, z2, some (.int v3), some (.int v4), z5], [.int (2 : Int32), .int v4], M)) (by decide +kernel) (hO := mm_own_155) rfl ?_
  refine mm_R_ige (t := 184) rfl rfl rfl (fun hc => ?_) (fun hc => ?_)
  · replace h := mm_ip hc h
    refine mm_Runs.seq (l := [(140, .aload_n 0, 1), (141, .getfield 44, 3), (144, .iload_n 3, 1), (145, .i2l, 1), (146, .iconst 5, 1)]) (S2 := (147, [some (.ref 42), z1, z2, some (.int v3), some (.int v4), z5], [.int (5 : Int32), .long v3.toInt64, .ref 5], M)) (by decide +kernel) (hO := mm_own_155) rfl ?_
    refine mm_R_call (v := mm_wv) h hA (k2 := 62) (as := [.ref 5, .long v3.toInt64, .int (5 : Int32)]) (r := []) rfl (fun _ => rfl) (fun q hq o ho => ms_62 (by omega) hq ho) (fun _ M1 h => ?_)
    show mm_Runs L xs (d + 1) 155 (150, [some (.ref 42), z1, z2, some (.int v3), some (.int v4), z5], [], M1) o
    refine mm_Runs.seq (l := [(150, .iconst 0, 1), (151, .istore 5, 2)]) (S2 := (153, [some (.ref 42), z1, z2, some (.int v3), some (.int v4), some (.int (0 : Int32))], [], M1)) (by decide +kernel) (hO := mm_own_155) rfl ?_
    have hp : mp_155_153 L xs (d + 1) v3 v4 (0 : Int32) M1 o := by
      refine ms_155_L153 hd h hA (fun r3 M2 h => ?_)
      intro y4 y5 y6
      show mm_Runs L xs (d + 1) 155 (178, [some (.ref 42), y4, y5, some (.int v3), some (.int v4), y6], [], M2) o
      refine mm_Runs.seq (l := [(178, .iinc 4 1, 3), (181, .goto (-47), 3)]) (S2 := (134, [some (.ref 42), y4, y5, some (.int v3), some (.int (v4 + (1 : Int32))), y6], [], M2)) (by decide +kernel) (hO := mm_own_155) rfl ?_
      cases h
      exact (show mp_155_134 L xs (d + 1) v3 (v4 + (1 : Int32)) M2 o from hA) y4 y5 y6
    exact hp z1 z2
  · replace h := mm_iq hc h
    cases h
    exact (show mp_155_184 L xs (d + 1) v3 M o from hA) z1 z2 (some (.int v4)) z5
theorem ms_155_L134 {L : Nat} {xs : Nat → Int32} {d : Nat} (hd : 3 ≤ d) {v3 : Int32} {v4 : Int32} {β : Type} {K : β → mm_M → mm_E → Prop} {F : (Unit) → mm_M → mm_O β} {M : mm_M} {q : (β ⊕ Nat) × mm_M} {o : mm_E} (h : mm_B (mf_155_L134 v3 v4 M) F = some q) (hA : mm_A K q o) (hx : ∀ (r : (Unit)) (M2 : mm_M), F r M2 = some q → (fun r M o => mp_155_184 L xs (d) v3 M o) r M2 o) : mp_155_134 L xs d v3 v4 M o := mm_R_loop (s := v4) (M := M) (P := (fun s M o => mp_155_134 L xs (d) v3 s M o)) (X := (fun r M o => mp_155_184 L xs (d) v3 M o)) h hA (fun s M q hq hA => ms_155_b134 hd hq hA) hx
def mp_155_187 (L : Nat) (xs : Nat → Int32) (d : Nat) (v3 : Int32) (v4 : Int32) (M : mm_M) (o : mm_E) : Prop := ∀ z1 z2 z5 : Option Value, mm_Runs L xs d 155 (187, [some (.ref 42), z1, z2, some (.int v3), some (.int v4), z5], [], M) o
def mp_155_218 (L : Nat) (xs : Nat → Int32) (d : Nat) (M : mm_M) (o : mm_E) : Prop := ∀ z0 z1 z2 z3 z4 z5 : Option Value, mm_Runs L xs d 155 (218, [z0, z1, z2, z3, z4, z5], [], M) o
noncomputable def mf_155_b187 (v3 : Int32) (v4 : Int32) (M : mm_M) : mm_O ((Int32) ⊕ (Unit)) := if v4 < (M.1 42 15) then (if mm_in v4 16384 then mm_B (mf_62 (M.1 48 v4.toNatClampNeg).toInt64 v3 M) (fun _ M1 => some (.inl (.inl (v4 + (1 : Int32))), M1)) else none) else (some (.inl (.inr ()), M))
noncomputable def mf_155_L187 (v3 : Int32) (s : Int32) (M : mm_M) : mm_O (Unit) := mm_L (fun s M => mf_155_b187 v3 s M) s M
set_option maxRecDepth 8000 in
set_option maxHeartbeats 4000000 in
theorem ms_155_b187 {L : Nat} {xs : Nat → Int32} {d : Nat} (hd : 3 ≤ d) {v3 : Int32} {v4 : Int32} {M : mm_M} {q : (((Int32) ⊕ (Unit)) ⊕ Nat) × mm_M} {o : mm_E} (h : mf_155_b187 v3 v4 M = some q) (hA : mm_A (mm_K2 (fun s M o => mp_155_187 L xs (d) v3 s M o) (fun r M o => mp_155_218 L xs (d) M o)) q o) : mp_155_187 L xs d v3 v4 M o := by
  unfold mf_155_b187 at h
  obtain ⟨d, rfl⟩ := mm_d1 (n := 2) hd
  intro z1 z2 z5
  show mm_Runs L xs (d + 1) 155 (187, [some (.ref 42), z1, z2, some (.int v3), some (.int v4), z5], [], M) o
  refine mm_Runs.seq (l := [(187, .iload 4, 2), (189, .aload_n 0, 1), (190, .getfield 196, 3)]) (S2 := (193, [some (.ref 42), z1, z2, some (.int v3), some (.int v4), z5], [.int (M.1 42 15), .int v4], M)) (by decide +kernel) (hO := mm_own_155) rfl ?_
  refine mm_R_ige (t := 218) rfl rfl rfl (fun hc => ?_) (fun hc => ?_)
  · replace h := mm_ip hc h
    refine mm_Runs.seq (l := [(196, .aload_n 0, 1), (197, .getfield 44, 3), (200, .aload_n 0, 1), (201, .getfield 30, 3), (204, .iload 4, 2)]) (S2 := (206, [some (.ref 42), z1, z2, some (.int v3), some (.int v4), z5], [.int v4, .ref 48, .ref 5], M)) (by decide +kernel) (hO := mm_own_155) rfl ?_
    obtain ⟨hb, h⟩ := mm_gd h
    refine mm_R_iald rfl rfl hb ?_
    refine mm_Runs.seq (l := [(207, .i2l, 1), (208, .iload_n 3, 1)]) (S2 := (209, [some (.ref 42), z1, z2, some (.int v3), some (.int v4), z5], [.int v3, .long (M.1 48 v4.toNatClampNeg).toInt64, .ref 5], M)) (by decide +kernel) (hO := mm_own_155) rfl ?_
    refine mm_R_call (v := mm_wv) h hA (k2 := 62) (as := [.ref 5, .long (M.1 48 v4.toNatClampNeg).toInt64, .int v3]) (r := []) rfl (fun _ => rfl) (fun q hq o ho => ms_62 (by omega) hq ho) (fun _ M1 h => ?_)
    show mm_Runs L xs (d + 1) 155 (212, [some (.ref 42), z1, z2, some (.int v3), some (.int v4), z5], [], M1) o
    refine mm_Runs.seq (l := [(212, .iinc 4 1, 3), (215, .goto (-28), 3)]) (S2 := (187, [some (.ref 42), z1, z2, some (.int v3), some (.int (v4 + (1 : Int32))), z5], [], M1)) (by decide +kernel) (hO := mm_own_155) rfl ?_
    cases h
    exact (show mp_155_187 L xs (d + 1) v3 (v4 + (1 : Int32)) M1 o from hA) z1 z2 z5
  · replace h := mm_iq hc h
    cases h
    exact (show mp_155_218 L xs (d + 1) M o from hA) (some (.ref 42)) z1 z2 (some (.int v3)) (some (.int v4)) z5
theorem ms_155_L187 {L : Nat} {xs : Nat → Int32} {d : Nat} (hd : 3 ≤ d) {v3 : Int32} {v4 : Int32} {β : Type} {K : β → mm_M → mm_E → Prop} {F : (Unit) → mm_M → mm_O β} {M : mm_M} {q : (β ⊕ Nat) × mm_M} {o : mm_E} (h : mm_B (mf_155_L187 v3 v4 M) F = some q) (hA : mm_A K q o) (hx : ∀ (r : (Unit)) (M2 : mm_M), F r M2 = some q → (fun r M o => mp_155_218 L xs (d) M o) r M2 o) : mp_155_187 L xs d v3 v4 M o := mm_R_loop (s := v4) (M := M) (P := (fun s M o => mp_155_187 L xs (d) v3 s M o)) (X := (fun r M o => mp_155_218 L xs (d) M o)) h hA (fun s M q hq hA => ms_155_b187 hd hq hA) hx
noncomputable def mf_155 (v1 : Int32) (M : mm_M) : mm_O Unit := mm_B (mf_62 (54156738319193 : Int64) (48 : Int32) M) (fun _ M1 => mm_B (mf_62 v1.toInt64 (32 : Int32) M1) (fun _ M2 => mm_B (mf_61 (0 : Int32) M2) (fun _ M3 => mm_B (mf_62 (M3.1 42 10).toInt64 (24 : Int32) M3) (fun _ M4 => mm_B (mf_156 M4) (fun _ M5 => mm_B (mf_62 (2 : Int64) (3 : Int32) M5) (fun _ M6 => mm_B (mf_62 ((((M6.1 42 15) + (50 : Int32)) - (1 : Int32)) / (50 : Int32)).toInt64 (15 : Int32) M6) (fun _ M7 => mm_B (mf_155_L86 ((((M6.1 42 15) + (50 : Int32)) - (1 : Int32)) / (50 : Int32)) (0 : Int32) M7) (fun r9 M8 => mm_B (mf_155_L107 (1 : Int32) M8) (fun r16 M15 => mm_B (mf_155_L134 r16 (0 : Int32) M15) (fun r22 M21 => mm_B (mf_155_L187 r16 (0 : Int32) M21) (fun r28 M27 => some (.inl (), M27))))))))))))
set_option maxRecDepth 8000 in
set_option maxHeartbeats 4000000 in
theorem ms_155 {L : Nat} {xs : Nat → Int32} {d : Nat} (hd : 3 ≤ d) {v1 : Int32} {M : mm_M} {q : (Unit ⊕ Nat) × mm_M} {o : mm_E} (h : mf_155 v1 M = some q) (hA : mm_A (mm_Kr mm_wv) q o) : mm_Runs L xs d 155 (0, mm_ent (mm_ml 155) [.ref 42, .int v1], [], M) o := by
  unfold mf_155 at h
  obtain ⟨d, rfl⟩ := mm_d1 (n := 2) hd
  show mm_Runs L xs (d + 1) 155 (0, [some (.ref 42), some (.int v1), none, none, none, none], [], M) o
  refine mm_Runs.seq (l := [(0, .aload_n 0, 1), (1, .getfield 44, 3), (4, .ldc2_w 76, 3), (7, .bipush 48, 2)]) (S2 := (9, [some (.ref 42), some (.int v1), none, none, none, none], [.int (48 : Int32), .long (54156738319193 : Int64), .ref 5], M)) (by decide +kernel) (hO := mm_own_155) rfl ?_
  refine mm_R_call (v := mm_wv) h hA (k2 := 62) (as := [.ref 5, .long (54156738319193 : Int64), .int (48 : Int32)]) (r := []) rfl (fun _ => rfl) (fun q hq o ho => ms_62 (by omega) hq ho) (fun _ M1 h => ?_)
  show mm_Runs L xs (d + 1) 155 (12, [some (.ref 42), some (.int v1), none, none, none, none], [], M1) o
  refine mm_Runs.seq (l := [(12, .aload_n 0, 1), (13, .getfield 44, 3), (16, .iload_n 1, 1), (17, .i2l, 1), (18, .bipush 32, 2)]) (S2 := (20, [some (.ref 42), some (.int v1), none, none, none, none], [.int (32 : Int32), .long v1.toInt64, .ref 5], M1)) (by decide +kernel) (hO := mm_own_155) rfl ?_
  refine mm_R_call (v := mm_wv) h hA (k2 := 62) (as := [.ref 5, .long v1.toInt64, .int (32 : Int32)]) (r := []) rfl (fun _ => rfl) (fun q hq o ho => ms_62 (by omega) hq ho) (fun _ M2 h => ?_)
  show mm_Runs L xs (d + 1) 155 (23, [some (.ref 42), some (.int v1), none, none, none, none], [], M2) o
  refine mm_Runs.seq (l := [(23, .aload_n 0, 1), (24, .getfield 44, 3), (27, .iconst 0, 1)]) (S2 := (28, [some (.ref 42), some (.int v1), none, none, none, none], [.int (0 : Int32), .ref 5], M2)) (by decide +kernel) (hO := mm_own_155) rfl ?_
  refine mm_R_call (v := mm_wv) h hA (k2 := 61) (as := [.ref 5, .int (0 : Int32)]) (r := []) rfl (fun _ => rfl) (fun q hq o ho => ms_61 (by omega) hq ho) (fun _ M3 h => ?_)
  show mm_Runs L xs (d + 1) 155 (31, [some (.ref 42), some (.int v1), none, none, none, none], [], M3) o
  refine mm_Runs.seq (l := [(31, .aload_n 0, 1), (32, .getfield 44, 3), (35, .aload_n 0, 1), (36, .getfield 108, 3), (39, .i2l, 1), (40, .bipush 24, 2)]) (S2 := (42, [some (.ref 42), some (.int v1), none, none, none, none], [.int (24 : Int32), .long (M3.1 42 10).toInt64, .ref 5], M3)) (by decide +kernel) (hO := mm_own_155) rfl ?_
  refine mm_R_call (v := mm_wv) h hA (k2 := 62) (as := [.ref 5, .long (M3.1 42 10).toInt64, .int (24 : Int32)]) (r := []) rfl (fun _ => rfl) (fun q hq o ho => ms_62 (by omega) hq ho) (fun _ M4 h => ?_)
  show mm_Runs L xs (d + 1) 155 (45, [some (.ref 42), some (.int v1), none, none, none, none], [], M4) o
  refine mm_Runs.seq (l := [(45, .aload_n 0, 1)]) (S2 := (46, [some (.ref 42), some (.int v1), none, none, none, none], [.ref 42], M4)) (by decide +kernel) (hO := mm_own_155) rfl ?_
  refine mm_R_call (v := mm_wv) h hA (k2 := 156) (as := [.ref 42]) (r := []) rfl (fun _ => rfl) (fun q hq o ho => ms_156 (by omega) hq ho) (fun _ M5 h => ?_)
  show mm_Runs L xs (d + 1) 155 (49, [some (.ref 42), some (.int v1), none, none, none, none], [], M5) o
  refine mm_Runs.seq (l := [(49, .aload_n 0, 1), (50, .getfield 44, 3), (53, .ldc2_w 220, 3), (56, .iconst 3, 1)]) (S2 := (57, [some (.ref 42), some (.int v1), none, none, none, none], [.int (3 : Int32), .long (2 : Int64), .ref 5], M5)) (by decide +kernel) (hO := mm_own_155) rfl ?_
  refine mm_R_call (v := mm_wv) h hA (k2 := 62) (as := [.ref 5, .long (2 : Int64), .int (3 : Int32)]) (r := []) rfl (fun _ => rfl) (fun q hq o ho => ms_62 (by omega) hq ho) (fun _ M6 h => ?_)
  show mm_Runs L xs (d + 1) 155 (60, [some (.ref 42), some (.int v1), none, none, none, none], [], M6) o
  refine mm_Runs.seq (l := [(60, .aload_n 0, 1), (61, .getfield 196, 3), (64, .bipush 50, 2), (66, .iadd, 1), (67, .iconst 1, 1), (68, .isub, 1), (69, .bipush 50, 2), (71, .idiv, 1), (72, .istore_n 2, 1), (73, .aload_n 0, 1), (74, .getfield 44, 3), (77, .iload_n 2, 1), (78, .i2l, 1), (79, .bipush 15, 2)]) (S2 := (81, [some (.ref 42), some (.int v1), some (.int ((((M6.1 42 15) + (50 : Int32)) - (1 : Int32)) / (50 : Int32))), none, none, none], [.int (15 : Int32), .long ((((M6.1 42 15) + (50 : Int32)) - (1 : Int32)) / (50 : Int32)).toInt64, .ref 5], M6)) (by decide +kernel) (hO := mm_own_155) rfl ?_
  refine mm_R_call (v := mm_wv) h hA (k2 := 62) (as := [.ref 5, .long ((((M6.1 42 15) + (50 : Int32)) - (1 : Int32)) / (50 : Int32)).toInt64, .int (15 : Int32)]) (r := []) rfl (fun _ => rfl) (fun q hq o ho => ms_62 (by omega) hq ho) (fun _ M7 h => ?_)
  show mm_Runs L xs (d + 1) 155 (84, [some (.ref 42), some (.int v1), some (.int ((((M6.1 42 15) + (50 : Int32)) - (1 : Int32)) / (50 : Int32))), none, none, none], [], M7) o
  refine mm_Runs.seq (l := [(84, .iconst 0, 1), (85, .istore_n 3, 1)]) (S2 := (86, [some (.ref 42), some (.int v1), some (.int ((((M6.1 42 15) + (50 : Int32)) - (1 : Int32)) / (50 : Int32))), some (.int (0 : Int32)), none, none], [], M7)) (by decide +kernel) (hO := mm_own_155) rfl ?_
  have hp : mp_155_86 L xs (d + 1) ((((M6.1 42 15) + (50 : Int32)) - (1 : Int32)) / (50 : Int32)) (0 : Int32) M7 o := by
    refine ms_155_L86 hd h hA (fun r9 M8 h => ?_)
    intro y10 y11 y12 y13 y14
    show mm_Runs L xs (d + 1) 155 (105, [some (.ref 42), y10, y11, y12, y13, y14], [], M8) o
    refine mm_Runs.seq (l := [(105, .iconst 1, 1), (106, .istore_n 3, 1)]) (S2 := (107, [some (.ref 42), y10, (mm_no2 y11), some (.int (1 : Int32)), y13, y14], [], M8)) (by decide +kernel) (hO := mm_own_155) rfl ?_
    have hp : mp_155_107 L xs (d + 1) (1 : Int32) M8 o := by
      refine ms_155_L107 hd h hA (fun r16 M15 h => ?_)
      intro y17 y18 y19 y20
      show mm_Runs L xs (d + 1) 155 (131, [some (.ref 42), y17, y18, some (.int r16), y19, y20], [], M15) o
      refine mm_Runs.seq (l := [(131, .iconst 0, 1), (132, .istore 4, 2)]) (S2 := (134, [some (.ref 42), y17, y18, some (.int r16), some (.int (0 : Int32)), y20], [], M15)) (by decide +kernel) (hO := mm_own_155) rfl ?_
      have hp : mp_155_134 L xs (d + 1) r16 (0 : Int32) M15 o := by
        refine ms_155_L134 hd h hA (fun r22 M21 h => ?_)
        intro y23 y24 y25 y26
        show mm_Runs L xs (d + 1) 155 (184, [some (.ref 42), y23, y24, some (.int r16), y25, y26], [], M21) o
        refine mm_Runs.seq (l := [(184, .iconst 0, 1), (185, .istore 4, 2)]) (S2 := (187, [some (.ref 42), y23, y24, some (.int r16), some (.int (0 : Int32)), y26], [], M21)) (by decide +kernel) (hO := mm_own_155) rfl ?_
        have hp : mp_155_187 L xs (d + 1) r16 (0 : Int32) M21 o := by
          refine ms_155_L187 hd h hA (fun r28 M27 h => ?_)
          intro y29 y30 y31 y32 y33 y34
          show mm_Runs L xs (d + 1) 155 (218, [y29, y30, y31, y32, y33, y34], [], M27) o
          cases h
          exact mm_R_retv rfl rfl hA
        exact hp y23 y24 y26
      exact hp y17 y18 y20
    exact hp y10 ((mm_no2 y11)) y13 y14
  exact hp (some (.int v1)) none none
