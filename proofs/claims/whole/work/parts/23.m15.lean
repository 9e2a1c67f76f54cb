/-! MEANINGS 15 -/
-- 205: PlainPacksModel.fixed()V (depth 1)
theorem mm_own_205 : mm_own 205 = 12 := rfl
def mp_205_15 (L : Nat) (xs : Nat → Int32) (d : Nat) (v1 : Int32) (M : mm_M) (o : mm_E) : Prop := mm_Runs L xs d 205 (15, [some (.ref 84), some (.int v1)], [], M) o
def mp_205_72 (L : Nat) (xs : Nat → Int32) (d : Nat) (M : mm_M) (o : mm_E) : Prop := ∀ z1 : Option Value, mm_Runs L xs d 205 (72, [some (.ref 84), z1], [], M) o
def mp_205_65 (L : Nat) (xs : Nat → Int32) (d : Nat) (v1 : Int32) (s1 : Int32) (s2 : Int32) (M : mm_M) (o : mm_E) : Prop := mm_Runs L xs d 205 (65, [some (.ref 84), some (.int v1)], [.int s2, .int s1, .ref 87], M) o
noncomputable def mf_205_j65 (v1 : Int32) (s1 : Int32) (s2 : Int32) (M : mm_M) : mm_O ((Int32) ⊕ (Unit)) := if mm_in s1 2100 then some (.inl (.inl (v1 + (1 : Int32))), (mm_pi M 87 s1.toNatClampNeg s2)) else none
set_option maxRecDepth 8000 in
set_option maxHeartbeats 4000000 in
theorem ms_205_j65 {L : Nat} {xs : Nat → Int32} {d : Nat} (hd : 1 ≤ d) {v1 : Int32} {s1 : Int32} {s2 : Int32} {M : mm_M} {q : (((Int32) ⊕ (Unit)) ⊕ Nat) × mm_M} {o : mm_E} (h : mf_205_j65 v1 s1 s2 M = some q) (hA : mm_A (mm_K2 (fun s M o => mp_205_15 L xs (d) s M o) (fun r M o => mp_205_72 L xs (d) M o)) q o) : mp_205_65 L xs d v1 s1 s2 M o := by
  unfold mf_205_j65 at h
  obtain ⟨d, rfl⟩ := mm_d1 (n := 0) hd
  show mm_Runs L xs (d + 1) 205 (65, [some (.ref 84), some (.int v1)], [.int s2, .int s1, .ref 87], M) o
  obtain ⟨hb, h⟩ := mm_gd h
  refine mm_R_iast rfl rfl hb ?_
  refine mm_Runs.seq (l := [(66, .iinc 1 1, 3), (69, .goto (-54), 3)]) (S2 := (15, [some (.ref 84), some (.int (v1 + (1 : Int32)))], [], (mm_pi M 87 s1.toNatClampNeg s2))) (by decide +kernel) (hO := mm_own_205) rfl ?_
  cases h
  exact (show mp_205_15 L xs (d + 1) (v1 + (1 : Int32)) (mm_pi M 87 s1.toNatClampNeg s2) o from hA)
noncomputable def mf_205_b15 (v1 : Int32) (M : mm_M) : mm_O ((Int32) ⊕ (Unit)) := if v1 < (288 : Int32) then (if v1 < (144 : Int32) then (mf_205_j65 v1 v1 (8 : Int32) M) else (if v1 < (256 : Int32) then (mf_205_j65 v1 v1 (9 : Int32) M) else (if v1 < (280 : Int32) then (mf_205_j65 v1 v1 (7 : Int32) M) else (mf_205_j65 v1 v1 (8 : Int32) M)))) else (some (.inl (.inr ()), M))
noncomputable def mf_205_L15 (s : Int32) (M : mm_M) : mm_O (Unit) := mm_L (fun s M => mf_205_b15 s M) s M
set_option maxRecDepth 8000 in
set_option maxHeartbeats 4000000 in
theorem ms_205_b15 {L : Nat} {xs : Nat → Int32} {d : Nat} (hd : 1 ≤ d) {v1 : Int32} {M : mm_M} {q : (((Int32) ⊕ (Unit)) ⊕ Nat) × mm_M} {o : mm_E} (h : mf_205_b15 v1 M = some q) (hA : mm_A (mm_K2 (fun s M o => mp_205_15 L xs (d) s M o) (fun r M o => mp_205_72 L xs (d) M o)) q o) : mp_205_15 L xs d v1 M o := by
  unfold mf_205_b15 at h
  obtain ⟨d, rfl⟩ := mm_d1 (n := 0) hd
  show mm_Runs L xs (d + 1) 205 (15, [some (.ref 84), some (.int v1)], [], M) o
  refine mm_Runs.seq (l := [(15, .iload_n 1, 1), (16, .sipush 288, 3)]) (S2 := (19, [some (.ref 84), some (.int v1)], [.int (288 : Int32), .int v1], M)) (by decide +kernel) (hO := mm_own_205) rfl ?_
  refine mm_R_ige (t := 72) rfl rfl rfl (fun hc => ?_) (fun hc => ?_)
  · replace h := mm_ip hc h
    refine mm_Runs.seq (l := [(22, .aload_n 0, 1), (23, .getfield 16, 3), (26, .iload_n 1, 1), (27, .iload_n 1, 1), (28, .sipush 144, 3)]) (S2 := (31, [some (.ref 84), some (.int v1)], [.int (144 : Int32), .int v1, .int v1, .ref 87], M)) (by decide +kernel) (hO := mm_own_205) rfl ?_
    refine mm_R_ige (t := 39) rfl rfl rfl (fun hc => ?_) (fun hc => ?_)
    · replace h := mm_ip hc h
      refine mm_Runs.seq (l := [(34, .bipush 8, 2), (36, .goto 29, 3)]) (S2 := (65, [some (.ref 84), some (.int v1)], [.int (8 : Int32), .int v1, .ref 87], M)) (by decide +kernel) (hO := mm_own_205) rfl ?_
      exact (ms_205_j65 hd h hA : mp_205_65 L xs (d + 1) v1 v1 (8 : Int32) M o)
    · replace h := mm_iq hc h
      refine mm_Runs.seq (l := [(39, .iload_n 1, 1), (40, .sipush 256, 3)]) (S2 := (43, [some (.ref 84), some (.int v1)], [.int (256 : Int32), .int v1, .int v1, .ref 87], M)) (by decide +kernel) (hO := mm_own_205) rfl ?_
      refine mm_R_ige (t := 51) rfl rfl rfl (fun hc => ?_) (fun hc => ?_)
      · replace h := mm_ip hc h
        refine mm_Runs.seq (l := [(46, .bipush 9, 2), (48, .goto 17, 3)]) (S2 := (65, [some (.ref 84), some (.int v1)], [.int (9 : Int32), .int v1, .ref 87], M)) (by decide +kernel) (hO := mm_own_205) rfl ?_
        exact (ms_205_j65 hd h hA : mp_205_65 L xs (d + 1) v1 v1 (9 : Int32) M o)
      · replace h := mm_iq hc h
        refine mm_Runs.seq (l := [(51, .iload_n 1, 1), (52, .sipush 280, 3)]) (S2 := (55, [some (.ref 84), some (.int v1)], [.int (280 : Int32), .int v1, .int v1, .ref 87], M)) (by decide +kernel) (hO := mm_own_205) rfl ?_
        refine mm_R_ige (t := 63) rfl rfl rfl (fun hc => ?_) (fun hc => ?_)
        · replace h := mm_ip hc h
          refine mm_Runs.seq (l := [(58, .bipush 7, 2), (60, .goto 5, 3)]) (S2 := (65, [some (.ref 84), some (.int v1)], [.int (7 : Int32), .int v1, .ref 87], M)) (by decide +kernel) (hO := mm_own_205) rfl ?_
          exact (ms_205_j65 hd h hA : mp_205_65 L xs (d + 1) v1 v1 (7 : Int32) M o)
        · replace h := mm_iq hc h
          refine mm_Runs.seq (l := [(63, .bipush 8, 2)]) (S2 := (65, [some (.ref 84), some (.int v1)], [.int (8 : Int32), .int v1, .ref 87], M)) (by decide +kernel) (hO := mm_own_205) rfl ?_
          exact (ms_205_j65 hd h hA : mp_205_65 L xs (d + 1) v1 v1 (8 : Int32) M o)
  · replace h := mm_iq hc h
    cases h
    exact (show mp_205_72 L xs (d + 1) M o from hA) (some (.int v1))
theorem ms_205_L15 {L : Nat} {xs : Nat → Int32} {d : Nat} (hd : 1 ≤ d) {v1 : Int32} {β : Type} {K : β → mm_M → mm_E → Prop} {F : (Unit) → mm_M → mm_O β} {M : mm_M} {q : (β ⊕ Nat) × mm_M} {o : mm_E} (h : mm_B (mf_205_L15 v1 M) F = some q) (hA : mm_A K q o) (hx : ∀ (r : (Unit)) (M2 : mm_M), F r M2 = some q → (fun r M o => mp_205_72 L xs (d) M o) r M2 o) : mp_205_15 L xs d v1 M o := mm_R_loop (s := v1) (M := M) (P := (fun s M o => mp_205_15 L xs (d) s M o)) (X := (fun r M o => mp_205_72 L xs (d) M o)) h hA (fun s M q hq hA => ms_205_b15 hd hq hA) hx
def mp_205_74 (L : Nat) (xs : Nat → Int32) (d : Nat) (v1 : Int32) (M : mm_M) (o : mm_E) : Prop := mm_Runs L xs d 205 (74, [some (.ref 84), some (.int v1)], [], M) o
def mp_205_97 (L : Nat) (xs : Nat → Int32) (d : Nat) (M : mm_M) (o : mm_E) : Prop := ∀ z1 : Option Value, mm_Runs L xs d 205 (97, [some (.ref 84), z1], [], M) o
noncomputable def mf_205_b74 (v1 : Int32) (M : mm_M) : mm_O ((Int32) ⊕ (Unit)) := if v1 < (32 : Int32) then (if mm_in ((300 : Int32) + v1) 2100 then some (.inl (.inl (v1 + (1 : Int32))), (mm_pi M 87 ((300 : Int32) + v1).toNatClampNeg (5 : Int32))) else none) else (some (.inl (.inr ()), M))
noncomputable def mf_205_L74 (s : Int32) (M : mm_M) : mm_O (Unit) := mm_L (fun s M => mf_205_b74 s M) s M
set_option maxRecDepth 8000 in
set_option maxHeartbeats 4000000 in
theorem ms_205_b74 {L : Nat} {xs : Nat → Int32} {d : Nat} (hd : 1 ≤ d) {v1 : Int32} {M : mm_M} {q : (((Int32) ⊕ (Unit)) ⊕ Nat) × mm_M} {o : mm_E} (h : mf_205_b74 v1 M = some q) (hA : mm_A (mm_K2 (fun s M o => mp_205_74 L xs (d) s M o) (fun r M o => mp_205_97 L xs (d) M o)) q o) : mp_205_74 L xs d v1 M o := by
  unfold mf_205_b74 at h
  obtain ⟨d, rfl⟩ := mm_d1 (n := 0) hd
  show mm_Runs L xs (d + 1) 205 (74, [some (.ref 84), some (.int v1)], [], M) o
  refine mm_Runs.seq (l := [(74, .iload_n 1, 1), (75, .bipush 32, 2)]) (S2 := (77, [some (.ref 84), some (.int v1)], [.int (32 : Int32), .int v1], M)) (by decide +kernel) (hO := mm_own_205) rfl ?_
  refine mm_R_ige (t := 97) rfl rfl rfl (fun hc => ?_) (fun hc => ?_)
  · replace h := mm_ip hc h
    refine mm_Runs.seq (l := [(80, .aload_n 0, 1), (81, .getfield 16, 3), (84, .sipush 300, 3), (87, .iload_n 1, 1), (88, .iadd, 1), (89, .iconst 5, 1)]) (S2 := (90, [some (.ref 84), some (.int v1)], [.int (5 : Int32), .int ((300 : Int32) + v1), .ref 87], M)) (by decide +kernel) (hO := mm_own_205) rfl ?_
    obtain ⟨hb, h⟩ := mm_gd h
    refine mm_R_iast rfl rfl hb ?_
    refine mm_Runs.seq (l := [(91, .iinc 1 1, 3), (94, .goto (-20), 3)]) (S2 := (74, [some (.ref 84), some (.int (v1 + (1 : Int32)))], [], (mm_pi M 87 ((300 : Int32) + v1).toNatClampNeg (5 : Int32)))) (by decide +kernel) (hO := mm_own_205) rfl ?_
    cases h
    exact (show mp_205_74 L xs (d + 1) (v1 + (1 : Int32)) (mm_pi M 87 ((300 : Int32) + v1).toNatClampNeg (5 : Int32)) o from hA)
  · replace h := mm_iq hc h
    cases h
    exact (show mp_205_97 L xs (d + 1) M o from hA) (some (.int v1))
theorem ms_205_L74 {L : Nat} {xs : Nat → Int32} {d : Nat} (hd : 1 ≤ d) {v1 : Int32} {β : Type} {K : β → mm_M → mm_E → Prop} {F : (Unit) → mm_M → mm_O β} {M : mm_M} {q : (β ⊕ Nat) × mm_M} {o : mm_E} (h : mm_B (mf_205_L74 v1 M) F = some q) (hA : mm_A K q o) (hx : ∀ (r : (Unit)) (M2 : mm_M), F r M2 = some q → (fun r M o => mp_205_97 L xs (d) M o) r M2 o) : mp_205_74 L xs d v1 M o := mm_R_loop (s := v1) (M := M) (P := (fun s M o => mp_205_74 L xs (d) s M o)) (X := (fun r M o => mp_205_97 L xs (d) M o)) h hA (fun s M q hq hA => ms_205_b74 hd hq hA) hx
noncomputable def mf_205_j97 (M : mm_M) : mm_O Unit := mm_B (mf_199 (0 : Int32) (288 : Int32) M) (fun _ M1 => mm_B (mf_199 (1 : Int32) (32 : Int32) M1) (fun _ M2 => some (.inl (), M2)))
set_option maxRecDepth 8000 in
set_option maxHeartbeats 4000000 in
theorem ms_205_j97 {L : Nat} {xs : Nat → Int32} {d : Nat} (hd : 1 ≤ d) {M : mm_M} {q : (Unit ⊕ Nat) × mm_M} {o : mm_E} (h : mf_205_j97 M = some q) (hA : mm_A (mm_Kr mm_wv) q o) : mp_205_97 L xs d M o := by
  unfold mf_205_j97 at h
  obtain ⟨d, rfl⟩ := mm_d1 (n := 0) hd
  intro z1
  show mm_Runs L xs (d + 1) 205 (97, [some (.ref 84), z1], [], M) o
  refine mm_Runs.seq (l := [(97, .aload_n 0, 1), (98, .iconst 0, 1), (99, .sipush 288, 3)]) (S2 := (102, [some (.ref 84), z1], [.int (288 : Int32), .int (0 : Int32), .ref 84], M)) (by decide +kernel) (hO := mm_own_205) rfl ?_
  refine mm_R_call (v := mm_wv) h hA (k2 := 199) (as := [.ref 84, .int (0 : Int32), .int (288 : Int32)]) (r := []) rfl (fun _ => rfl) (fun q hq o ho => ms_199 (by omega) hq ho) (fun _ M1 h => ?_)
  show mm_Runs L xs (d + 1) 205 (105, [some (.ref 84), z1], [], M1) o
  refine mm_Runs.seq (l := [(105, .aload_n 0, 1), (106, .iconst 1, 1), (107, .bipush 32, 2)]) (S2 := (109, [some (.ref 84), z1], [.int (32 : Int32), .int (1 : Int32), .ref 84], M1)) (by decide +kernel) (hO := mm_own_205) rfl ?_
  refine mm_R_call (v := mm_wv) h hA (k2 := 199) (as := [.ref 84, .int (1 : Int32), .int (32 : Int32)]) (r := []) rfl (fun _ => rfl) (fun q hq o ho => ms_199 (by omega) hq ho) (fun _ M2 h => ?_)
  show mm_Runs L xs (d + 1) 205 (112, [some (.ref 84), z1], [], M2) o
  cases h
  exact mm_R_retv rfl rfl hA
noncomputable def mf_205 (M : mm_M) : mm_O Unit := mm_B (mf_205_L15 (0 : Int32) (mm_pi (mm_pi M 84 20 (288 : Int32)) 84 21 (32 : Int32))) (fun r2 M1 => mm_B (mf_205_L74 (0 : Int32) M1) (fun r5 M4 => mf_205_j97 M4))
set_option maxRecDepth 8000 in
set_option maxHeartbeats 4000000 in
theorem ms_205 {L : Nat} {xs : Nat → Int32} {d : Nat} (hd : 1 ≤ d) {M : mm_M} {q : (Unit ⊕ Nat) × mm_M} {o : mm_E} (h : mf_205 M = some q) (hA : mm_A (mm_Kr mm_wv) q o) : mm_Runs L xs d 205 (0, mm_ent (mm_ml 205) [.ref 84], [], M) o := by
  unfold mf_205 at h
  obtain ⟨d, rfl⟩ := mm_d1 (n := 0) hd
  show mm_Runs L xs (d + 1) 205 (0, [some (.ref 84), none], [], M) o
  refine mm_Runs.seq (l := [(0, .aload_n 0, 1), (1, .sipush 288, 3), (4, .putfield 215, 3), (7, .aload_n 0, 1), (8, .bipush 32, 2), (10, .putfield 218, 3), (13, .iconst 0, 1), (14, .istore_n 1, 1)]) (S2 := (15, [some (.ref 84), some (.int (0 : Int32))], [], (mm_pi (mm_pi M 84 20 (288 : Int32)) 84 21 (32 : Int32)))) (by decide +kernel) (hO := mm_own_205) rfl ?_
  have hp : mp_205_15 L xs (d + 1) (0 : Int32) (mm_pi (mm_pi M 84 20 (288 : Int32)) 84 21 (32 : Int32)) o := by
    refine ms_205_L15 hd h hA (fun r2 M1 h => ?_)
    intro y3
    show mm_Runs L xs (d + 1) 205 (72, [some (.ref 84), y3], [], M1) o
    refine mm_Runs.seq (l := [(72, .iconst 0, 1), (73, .istore_n 1, 1)]) (S2 := (74, [some (.ref 84), some (.int (0 : Int32))], [], M1)) (by decide +kernel) (hO := mm_own_205) rfl ?_
    have hp : mp_205_74 L xs (d + 1) (0 : Int32) M1 o := by
      refine ms_205_L74 hd h hA (fun r5 M4 h => ?_)
      intro y6
      show mm_Runs L xs (d + 1) 205 (97, [some (.ref 84), y6], [], M4) o
      exact (ms_205_j97 hd h hA : mp_205_97 L xs (d + 1) M4 o) y6
    exact hp
  exact hp
-- 200: PlainPacksModel.taken(II)J (depth 0)
theorem mm_own_200 : mm_own 200 = 12 := rfl
def mp_200_9 (L : Nat) (xs : Nat → Int32) (d : Nat) (v1 : Int32) (v2 : Int32) (v3 : Int64) (v5 : Int32) (M : mm_M) (o : mm_E) : Prop := ∀ z4 : Option Value, mm_Runs L xs d 200 (9, [some (.ref 84), some (.int v1), some (.int v2), some (.long v3), z4, some (.int v5)], [], M) o
def mp_200_56 (L : Nat) (xs : Nat → Int32) (d : Nat) (v3 : Int64) (M : mm_M) (o : mm_E) : Prop := ∀ z0 z1 z2 z4 z5 : Option Value, mm_Runs L xs d 200 (56, [z0, z1, z2, some (.long v3), z4, z5], [], M) o
noncomputable def mf_200_b9 (v1 : Int32) (v2 : Int32) (v3 : Int64) (v5 : Int32) (M : mm_M) : mm_O ((Int64 × Int32) ⊕ (Int64)) := if v5 < (((300 : Int32) * v1) + v2) then (if mm_in v5 2100 then if (M.1 87 v5.toNatClampNeg) = 0 then (some (.inl (.inl ((v3 + (0 : Int64)), (v5 + (1 : Int32)))), M)) else (if mm_in v5 2100 then some (.inl (.inl ((v3 + (mm_lshl (1 : Int64) ((20 : Int32) - (M.1 87 v5.toNatClampNeg)))), (v5 + (1 : Int32)))), M) else none) else none) else (some (.inl (.inr v3), M))
noncomputable def mf_200_L9 (v1 : Int32) (v2 : Int32) (s : Int64 × Int32) (M : mm_M) : mm_O (Int64) := mm_L (fun s M => mf_200_b9 v1 v2 s.1 s.2 M) s M
set_option maxRecDepth 8000 in
set_option maxHeartbeats 4000000 in
theorem ms_200_b9 {L : Nat} {xs : Nat → Int32} {d : Nat} (hd : 0 ≤ d) {v1 : Int32} {v2 : Int32} {v3 : Int64} {v5 : Int32} {M : mm_M} {q : (((Int64 × Int32) ⊕ (Int64)) ⊕ Nat) × mm_M} {o : mm_E} (h : mf_200_b9 v1 v2 v3 v5 M = some q) (hA : mm_A (mm_K2 (fun s M o => mp_200_9 L xs (d) v1 v2 s.1 s.2 M o) (fun r M o => mp_200_56 L xs (d) r M o)) q o) : mp_200_9 L xs d v1 v2 v3 v5 M o := by
  unfold mf_200_b9 at h
  intro z4
  show mm_Runs L xs (d) 200 (9, [some (.ref 84), some (.int v1), some (.int v2), some (.long v3), z4, some (.int v5)], [], M) o
  refine mm_Runs.seq (l := [(9, .iload 5, 2), (11, .sipush 300, 3), (14, .iload_n 1, 1), (15, .imul, 1), (16, .iload_n 2, 1), (17, .iadd, 1)]) (S2 := (18, [some (.ref 84), some (.int v1), some (.int v2), some (.long v3), z4, some (.int v5)], [.int (((300 : Int32) * v1) + v2), .int v5], M)) (by decide +kernel) (hO := mm_own_200) rfl ?_
  refine mm_R_ige (t := 56) rfl rfl rfl (fun hc => ?_) (fun hc => ?_)
  · replace h := mm_ip hc h
    refine mm_Runs.seq (l := [(21, .lload_n 3, 1), (22, .aload_n 0, 1), (23, .getfield 16, 3), (26, .iload 5, 2)]) (S2 := (28, [some (.ref 84), some (.int v1), some (.int v2), some (.long v3), z4, some (.int v5)], [.int v5, .ref 87, .long v3], M)) (by decide +kernel) (hO := mm_own_200) rfl ?_
    obtain ⟨hb, h⟩ := mm_gd h
    refine mm_R_iald rfl rfl hb ?_
    refine mm_R_zne (t := 36) rfl rfl rfl (fun hc => ?_) (fun hc => ?_)
    · replace h := mm_ip hc h
      refine mm_Runs.seq (l := [(32, .lconst 0, 1), (33, .goto 15, 3), (48, .ladd, 1), (49, .lstore_n 3, 1), (50, .iinc 5 1, 3), (53, .goto (-44), 3)]) (S2 := (9, [some (.ref 84), some (.int v1), some (.int v2), some (.long (v3 + (0 : Int64))), none, some (.int (v5 + (1 : Int32)))], [], M)) (by decide +kernel) (hO := mm_own_200) rfl ?_
      cases h
      exact (show mp_200_9 L xs (d) v1 v2 (v3 + (0 : Int64)) (v5 + (1 : Int32)) M o from hA) none
    · replace h := mm_iq hc h
      refine mm_Runs.seq (l := [(36, .lconst 1, 1), (37, .bipush 20, 2), (39, .aload_n 0, 1), (40, .getfield 16, 3), (43, .iload 5, 2)]) (S2 := (45, [some (.ref 84), some (.int v1), some (.int v2), some (.long v3), z4, some (.int v5)], [.int v5, .ref 87, .int (20 : Int32), .long (1 : Int64), .long v3], M)) (by decide +kernel) (hO := mm_own_200) rfl ?_
      obtain ⟨hb, h⟩ := mm_gd h
      refine mm_R_iald rfl rfl hb ?_
      refine mm_Runs.seq (l := [(46, .isub, 1), (47, .lshl, 1), (48, .ladd, 1), (49, .lstore_n 3, 1), (50, .iinc 5 1, 3), (53, .goto (-44), 3)]) (S2 := (9, [some (.ref 84), some (.int v1), some (.int v2), some (.long (v3 + (mm_lshl (1 : Int64) ((20 : Int32) - (M.1 87 v5.toNatClampNeg))))), none, some (.int (v5 + (1 : Int32)))], [], M)) (by decide +kernel) (hO := mm_own_200) rfl ?_
      cases h
      exact (show mp_200_9 L xs (d) v1 v2 (v3 + (mm_lshl (1 : Int64) ((20 : Int32) - (M.1 87 v5.toNatClampNeg)))) (v5 + (1 : Int32)) M o from hA) none
  · replace h := mm_iq hc h
    cases h
    exact (show mp_200_56 L xs (d) v3 M o from hA) (some (.ref 84)) (some (.int v1)) (some (.int v2)) z4 (some (.int v5))
theorem ms_200_L9 {L : Nat} {xs : Nat → Int32} {d : Nat} (hd : 0 ≤ d) {v1 : Int32} {v2 : Int32} {v3 : Int64} {v5 : Int32} {β : Type} {K : β → mm_M → mm_E → Prop} {F : (Int64) → mm_M → mm_O β} {M : mm_M} {q : (β ⊕ Nat) × mm_M} {o : mm_E} (h : mm_B (mf_200_L9 v1 v2 (v3, v5) M) F = some q) (hA : mm_A K q o) (hx : ∀ (r : (Int64)) (M2 : mm_M), F r M2 = some q → (fun r M o => mp_200_56 L xs (d) r M o) r M2 o) : mp_200_9 L xs d v1 v2 v3 v5 M o := mm_R_loop (s := (v3, v5)) (M := M) (P := (fun s M o => mp_200_9 L xs (d) v1 v2 s.1 s.2 M o)) (X := (fun r M o => mp_200_56 L xs (d) r M o)) h hA (fun s M q hq hA => ms_200_b9 hd hq hA) hx
noncomputable def mf_200 (v1 : Int32) (v2 : Int32) (M : mm_M) : mm_O Int64 := mm_B (mf_200_L9 v1 v2 ((0 : Int64), ((300 : Int32) * v1)) M) (fun r2 M1 => some (.inl r2, M1))
set_option maxRecDepth 8000 in
set_option maxHeartbeats 4000000 in
theorem ms_200 {L : Nat} {xs : Nat → Int32} {d : Nat} (hd : 0 ≤ d) {v1 : Int32} {v2 : Int32} {M : mm_M} {q : (Int64 ⊕ Nat) × mm_M} {o : mm_E} (h : mf_200 v1 v2 M = some q) (hA : mm_A (mm_Kr mm_wl) q o) : mm_Runs L xs d 200 (0, mm_ent (mm_ml 200) [.ref 84, .int v1, .int v2], [], M) o := by
  unfold mf_200 at h
  show mm_Runs L xs (d) 200 (0, [some (.ref 84), some (.int v1), some (.int v2), none, none, none], [], M) o
  refine mm_Runs.seq (l := [(0, .lconst 0, 1), (1, .lstore_n 3, 1), (2, .sipush 300, 3), (5, .iload_n 1, 1), (6, .imul, 1), (7, .istore 5, 2)]) (S2 := (9, [some (.ref 84), some (.int v1), some (.int v2), some (.long (0 : Int64)), none, some (.int ((300 : Int32) * v1))], [], M)) (by decide +kernel) (hO := mm_own_200) rfl ?_
  have hp : mp_200_9 L xs (d) v1 v2 (0 : Int64) ((300 : Int32) * v1) M o := by
    refine ms_200_L9 hd h hA (fun r2 M1 h => ?_)
    intro y3 y4 y5 y6 y7
    show mm_Runs L xs (d) 200 (56, [y3, y4, y5, some (.long r2), y6, y7], [], M1) o
    refine mm_Runs.seq (l := [(56, .lload_n 3, 1)]) (S2 := (57, [y3, y4, y5, some (.long r2), y6, y7], [.long r2], M1)) (by decide +kernel) (hO := mm_own_200) rfl ?_
    cases h
    exact mm_R_retl rfl rfl hA
  exact hp none
-- 201: PlainPacksModel.isFit(IIZ)Z (depth 1)
theorem mm_own_201 : mm_own 201 = 12 := rfl
def mp_201_13 (L : Nat) (xs : Nat → Int32) (d : Nat) (v1 : Int32) (v2 : Int32) (v3 : Int32) (v4 : Int32) (v5 : Int32) (v6 : Int32) (M : mm_M) (o : mm_E) : Prop := mm_Runs L xs d 201 (13, [some (.ref 84), some (.int v1), some (.int v2), some (.int v3), some (.int v4), some (.int v5), some (.int v6)], [], M) o
def mp_201_72 (L : Nat) (xs : Nat → Int32) (d : Nat) (v1 : Int32) (v2 : Int32) (v3 : Int32) (v4 : Int32) (v5 : Int32) (M : mm_M) (o : mm_E) : Prop := ∀ z6 : Option Value, mm_Runs L xs d 201 (72, [some (.ref 84), some (.int v1), some (.int v2), some (.int v3), some (.int v4), some (.int v5), z6], [], M) o
def mp_201_42 (L : Nat) (xs : Nat → Int32) (d : Nat) (v1 : Int32) (v2 : Int32) (v3 : Int32) (v5 : Int32) (v6 : Int32) (s0 : Int32) (s1 : Int32) (M : mm_M) (o : mm_E) : Prop := ∀ z4 : Option Value, mm_Runs L xs d 201 (42, [some (.ref 84), some (.int v1), some (.int v2), some (.int v3), z4, some (.int v5), some (.int v6)], [.int s1, .int s0], M) o
noncomputable def mf_201_j42 (v1 : Int32) (v2 : Int32) (v3 : Int32) (v5 : Int32) (v6 : Int32) (s0 : Int32) (s1 : Int32) (M : mm_M) : mm_O ((Int32 × Int32 × Int32) ⊕ (Int32 × Int32)) := if mm_in v6 2100 then if (M.1 87 v6.toNatClampNeg) = (1 : Int32) then (some (.inl (.inl ((s0 + s1), (v5 + (1 : Int32)), (v6 + (1 : Int32)))), M)) else (some (.inl (.inl ((s0 + s1), (v5 + (0 : Int32)), (v6 + (1 : Int32)))), M)) else none
set_option maxRecDepth 8000 in
set_option maxHeartbeats 4000000 in
theorem ms_201_j42 {L : Nat} {xs : Nat → Int32} {d : Nat} (hd : 1 ≤ d) {v1 : Int32} {v2 : Int32} {v3 : Int32} {v5 : Int32} {v6 : Int32} {s0 : Int32} {s1 : Int32} {M : mm_M} {q : (((Int32 × Int32 × Int32) ⊕ (Int32 × Int32)) ⊕ Nat) × mm_M} {o : mm_E} (h : mf_201_j42 v1 v2 v3 v5 v6 s0 s1 M = some q) (hA : mm_A (mm_K2 (fun s M o => mp_201_13 L xs (d) v1 v2 v3 s.1 s.2.1 s.2.2 M o) (fun r M o => mp_201_72 L xs (d) v1 v2 v3 r.1 r.2 M o)) q o) : mp_201_42 L xs d v1 v2 v3 v5 v6 s0 s1 M o := by
  unfold mf_201_j42 at h
  obtain ⟨d, rfl⟩ := mm_d1 (n := 0) hd
  intro z4
  show mm_Runs L xs (d + 1) 201 (42, [some (.ref 84), some (.int v1), some (.int v2), some (.int v3), z4, some (.int v5), some (.int v6)], [.int s1, .int s0], M) o
  refine mm_Runs.seq (l := [(42, .iadd, 1), (43, .istore 4, 2), (45, .iload 5, 2), (47, .aload_n 0, 1), (48, .getfield 16, 3), (51, .iload 6, 2)]) (S2 := (53, [some (.ref 84), some (.int v1), some (.int v2), some (.int v3), some (.int (s0 + s1)), some (.int v5), some (.int v6)], [.int v6, .ref 87, .int v5], M)) (by decide +kernel) (hO := mm_own_201) rfl ?_
  obtain ⟨hb, h⟩ := mm_gd h
  refine mm_R_iald rfl rfl hb ?_
  refine mm_Runs.seq (l := [(54, .iconst 1, 1)]) (S2 := (55, [some (.ref 84), some (.int v1), some (.int v2), some (.int v3), some (.int (s0 + s1)), some (.int v5), some (.int v6)], [.int (1 : Int32), .int (M.1 87 v6.toNatClampNeg), .int v5], M)) (by decide +kernel) (hO := mm_own_201) rfl ?_
  refine mm_R_ine (t := 62) rfl rfl rfl (fun hc => ?_) (fun hc => ?_)
  · replace h := mm_ip hc h
    refine mm_Runs.seq (l := [(58, .iconst 1, 1), (59, .goto 4, 3), (63, .iadd, 1), (64, .istore 5, 2), (66, .iinc 6 1, 3), (69, .goto (-56), 3)]) (S2 := (13, [some (.ref 84), some (.int v1), some (.int v2), some (.int v3), some (.int (s0 + s1)), some (.int (v5 + (1 : Int32))), some (.int (v6 + (1 : Int32)))], [], M)) (by decide +kernel) (hO := mm_own_201) rfl ?_
    cases h
    exact (show mp_201_13 L xs (d + 1) v1 v2 v3 (s0 + s1) (v5 + (1 : Int32)) (v6 + (1 : Int32)) M o from hA)
  · replace h := mm_iq hc h
    refine mm_Runs.seq (l := [(62, .iconst 0, 1), (63, .iadd, 1), (64, .istore 5, 2), (66, .iinc 6 1, 3), (69, .goto (-56), 3)]) (S2 := (13, [some (.ref 84), some (.int v1), some (.int v2), some (.int v3), some (.int (s0 + s1)), some (.int (v5 + (0 : Int32))), some (.int (v6 + (1 : Int32)))], [], M)) (by decide +kernel) (hO := mm_own_201) rfl ?_
    cases h
    exact (show mp_201_13 L xs (d + 1) v1 v2 v3 (s0 + s1) (v5 + (0 : Int32)) (v6 + (1 : Int32)) M o from hA)
noncomputable def mf_201_b13 (v1 : Int32) (v2 : Int32) (v3 : Int32) (v4 : Int32) (v5 : Int32) (v6 : Int32) (M : mm_M) : mm_O ((Int32 × Int32 × Int32) ⊕ (Int32 × Int32)) := if v6 < (((300 : Int32) * v1) + v2) then (if mm_in v6 2100 then if 0 < (M.1 87 v6.toNatClampNeg) then (mf_201_j42 v1 v2 v3 v5 v6 v4 (1 : Int32) M) else (mf_201_j42 v1 v2 v3 v5 v6 v4 (0 : Int32) M) else none) else (some (.inl (.inr (v4, v5)), M))
noncomputable def mf_201_L13 (v1 : Int32) (v2 : Int32) (v3 : Int32) (s : Int32 × Int32 × Int32) (M : mm_M) : mm_O (Int32 × Int32) := mm_L (fun s M => mf_201_b13 v1 v2 v3 s.1 s.2.1 s.2.2 M) s M
set_option maxRecDepth 8000 in
set_option maxHeartbeats 4000000 in
theorem ms_201_b13 {L : Nat} {xs : Nat → Int32} {d : Nat} (hd : 1 ≤ d) {v1 : Int32} {v2 : Int32} {v3 : Int32} {v4 : Int32} {v5 : Int32} {v6 : Int32} {M : mm_M} {q : (((Int32 × Int32 × Int32) ⊕ (Int32 × Int32)) ⊕ Nat) × mm_M} {o : mm_E} (h : mf_201_b13 v1 v2 v3 v4 v5 v6 M = some q) (hA : mm_A (mm_K2 (fun s M o => mp_201_13 L xs (d) v1 v2 v3 s.1 s.2.1 s.2.2 M o) (fun r M o => mp_201_72 L xs (d) v1 v2 v3 r.1 r.2 M o)) q o) : mp_201_13 L xs d v1 v2 v3 v4 v5 v6 M o := by
  unfold mf_201_b13 at h
  obtain ⟨d, rfl⟩ := mm_d1 (n := 0) hd
  show mm_Runs L xs (d + 1) 201 (13, [some (.ref 84), some (.int v1), some (.int v2), some (.int v3), some (.int v4), some (.int v5), some (.int v6)], [], M) o
  refine mm_Runs.seq (l := [(13, .iload 6, 2), (15, .sipush 300, 3), (18, .iload_n 1, 1), (19, .imul, 1), (20, .iload_n 2, 1), (21, .iadd, 1)]) (S2 := (22, [some (.ref 84), some (.int v1), some (.int v2), some (.int v3), some (.int v4), some (.int v5), some (.int v6)], [.int (((300 : Int32) * v1) + v2), .int v6], M)) (by decide +kernel) (hO := mm_own_201) rfl ?_
  refine mm_R_ige (t := 72) rfl rfl rfl (fun hc => ?_) (fun hc => ?_)
  · replace h := mm_ip hc h
    refine mm_Runs.seq (l := [(25, .iload 4, 2), (27, .aload_n 0, 1), (28, .getfield 16, 3), (31, .iload 6, 2)]) (S2 := (33, [some (.ref 84), some (.int v1), some (.int v2), some (.int v3), some (.int v4), some (.int v5), some (.int v6)], [.int v6, .ref 87, .int v4], M)) (by decide +kernel) (hO := mm_own_201) rfl ?_
    obtain ⟨hb, h⟩ := mm_gd h
    refine mm_R_iald rfl rfl hb ?_
    refine mm_R_zle (t := 41) rfl rfl rfl (fun hc => ?_) (fun hc => ?_)
    · replace h := mm_ip hc h
      refine mm_Runs.seq (l := [(37, .iconst 1, 1), (38, .goto 4, 3)]) (S2 := (42, [some (.ref 84), some (.int v1), some (.int v2), some (.int v3), some (.int v4), some (.int v5), some (.int v6)], [.int (1 : Int32), .int v4], M)) (by decide +kernel) (hO := mm_own_201) rfl ?_
      exact (ms_201_j42 hd h hA : mp_201_42 L xs (d + 1) v1 v2 v3 v5 v6 v4 (1 : Int32) M o) (some (.int v4))
    · replace h := mm_iq hc h
      refine mm_Runs.seq (l := [(41, .iconst 0, 1)]) (S2 := (42, [some (.ref 84), some (.int v1), some (.int v2), some (.int v3), some (.int v4), some (.int v5), some (.int v6)], [.int (0 : Int32), .int v4], M)) (by decide +kernel) (hO := mm_own_201) rfl ?_
      exact (ms_201_j42 hd h hA : mp_201_42 L xs (d + 1) v1 v2 v3 v5 v6 v4 (0 : Int32) M o) (some (.int v4))
  · replace h := mm_iq hc h
    cases h
    exact (show mp_201_72 L xs (d + 1) v1 v2 v3 v4 v5 M o from hA) (some (.int v6))
theorem ms_201_L13 {L : Nat} {xs : Nat → Int32} {d : Nat} (hd : 1 ≤ d) {v1 : Int32} {v2 : Int32} {v3 : Int32} {v4 : Int32} {v5 : Int32} {v6 : Int32} {β : Type} {K : β → mm_M → mm_E → Prop} {F : (Int32 × Int32) → mm_M → mm_O β} {M : mm_M} {q : (β ⊕ Nat) × mm_M} {o : mm_E} (h : mm_B (mf_201_L13 v1 v2 v3 (v4, v5, v6) M) F = some q) (hA : mm_A K q o) (hx : ∀ (r : (Int32 × Int32)) (M2 : mm_M), F r M2 = some q → (fun r M o => mp_201_72 L xs (d) v1 v2 v3 r.1 r.2 M o) r M2 o) : mp_201_13 L xs d v1 v2 v3 v4 v5 v6 M o := mm_R_loop (s := (v4, v5, v6)) (M := M) (P := (fun s M o => mp_201_13 L xs (d) v1 v2 v3 s.1 s.2.1 s.2.2 M o)) (X := (fun r M o => mp_201_72 L xs (d) v1 v2 v3 r.1 r.2 M o)) h hA (fun s M q hq hA => ms_201_b13 hd hq hA) hx
def mp_201_97 (L : Nat) (xs : Nat → Int32) (d : Nat) (v3 : Int32) (v4 : Int32) (M : mm_M) (o : mm_E) : Prop := ∀ z0 z1 z2 z5 z6 : Option Value, mm_Runs L xs d 201 (97, [z0, z1, z2, some (.int v3), some (.int v4), z5, z6], [], M) o
noncomputable def mf_201_j97 (v3 : Int32) (v4 : Int32) (M : mm_M) : mm_O Int32 := if v3 = 0 then (some (.inl (0 : Int32), M)) else (if v4 = 0 then (some (.inl (1 : Int32), M)) else (some (.inl (0 : Int32), M)))
set_option maxRecDepth 8000 in
set_option maxHeartbeats 4000000 in
theorem ms_201_j97 {L : Nat} {xs : Nat → Int32} {d : Nat} (hd : 1 ≤ d) {v3 : Int32} {v4 : Int32} {M : mm_M} {q : (Int32 ⊕ Nat) × mm_M} {o : mm_E} (h : mf_201_j97 v3 v4 M = some q) (hA : mm_A (mm_Kr mm_wi) q o) : mp_201_97 L xs d v3 v4 M o := by
  unfold mf_201_j97 at h
  obtain ⟨d, rfl⟩ := mm_d1 (n := 0) hd
  intro z0 z1 z2 z5 z6
  show mm_Runs L xs (d + 1) 201 (97, [z0, z1, z2, some (.int v3), some (.int v4), z5, z6], [], M) o
  refine mm_Runs.seq (l := [(97, .iload_n 3, 1)]) (S2 := (98, [z0, z1, z2, some (.int v3), some (.int v4), z5, z6], [.int v3], M)) (by decide +kernel) (hO := mm_own_201) rfl ?_
  refine mm_R_zeq (t := 110) rfl rfl rfl (fun hc => ?_) (fun hc => ?_)
  · replace h := mm_ip hc h
    refine mm_Runs.seq (l := [(110, .iconst 0, 1)]) (S2 := (111, [z0, z1, z2, some (.int v3), some (.int v4), z5, z6], [.int (0 : Int32)], M)) (by decide +kernel) (hO := mm_own_201) rfl ?_
    cases h
    exact mm_R_retb rfl rfl rfl hA
  · replace h := mm_iq hc h
    refine mm_Runs.seq (l := [(101, .iload 4, 2)]) (S2 := (103, [z0, z1, z2, some (.int v3), some (.int v4), z5, z6], [.int v4], M)) (by decide +kernel) (hO := mm_own_201) rfl ?_
    refine mm_R_zne (t := 110) rfl rfl rfl (fun hc => ?_) (fun hc => ?_)
    · replace h := mm_ip hc h
      refine mm_Runs.seq (l := [(106, .iconst 1, 1), (107, .goto 4, 3)]) (S2 := (111, [z0, z1, z2, some (.int v3), some (.int v4), z5, z6], [.int (1 : Int32)], M)) (by decide +kernel) (hO := mm_own_201) rfl ?_
      cases h
      exact mm_R_retb rfl rfl rfl hA
    · replace h := mm_iq hc h
      refine mm_Runs.seq (l := [(110, .iconst 0, 1)]) (S2 := (111, [z0, z1, z2, some (.int v3), some (.int v4), z5, z6], [.int (0 : Int32)], M)) (by decide +kernel) (hO := mm_own_201) rfl ?_
      cases h
      exact mm_R_retb rfl rfl rfl hA
noncomputable def mf_201_j72 (v1 : Int32) (v2 : Int32) (v3 : Int32) (v4 : Int32) (v5 : Int32) (M : mm_M) : mm_O Int32 := mm_B (mf_200 v1 v2 M) (fun r1 M2 => if r1 = (1048576 : Int64) then (some (.inl (1 : Int32), M2)) else (if v4 = (1 : Int32) then (if v5 = (1 : Int32) then (some (.inl (1 : Int32), M2)) else (mf_201_j97 v3 v4 M2)) else (mf_201_j97 v3 v4 M2)))
set_option maxRecDepth 8000 in
set_option maxHeartbeats 4000000 in
theorem ms_201_j72 {L : Nat} {xs : Nat → Int32} {d : Nat} (hd : 1 ≤ d) {v1 : Int32} {v2 : Int32} {v3 : Int32} {v4 : Int32} {v5 : Int32} {M : mm_M} {q : (Int32 ⊕ Nat) × mm_M} {o : mm_E} (h : mf_201_j72 v1 v2 v3 v4 v5 M = some q) (hA : mm_A (mm_Kr mm_wi) q o) : mp_201_72 L xs d v1 v2 v3 v4 v5 M o := by
  unfold mf_201_j72 at h
  obtain ⟨d, rfl⟩ := mm_d1 (n := 0) hd
  intro z6
  show mm_Runs L xs (d + 1) 201 (72, [some (.ref 84), some (.int v1), some (.int v2), some (.int v3), some (.int v4), some (.int v5), z6], [], M) o
  refine mm_Runs.seq (l := [(72, .aload_n 0, 1), (73, .iload_n 1, 1), (74, .iload_n 2, 1)]) (S2 := (75, [some (.ref 84), some (.int v1), some (.int v2), some (.int v3), some (.int v4), some (.int v5), z6], [.int v2, .int v1, .ref 84], M)) (by decide +kernel) (hO := mm_own_201) rfl ?_
  refine mm_R_call (v := mm_wl) h hA (k2 := 200) (as := [.ref 84, .int v1, .int v2]) (r := []) rfl (fun _ => rfl) (fun q hq o ho => ms_200 (by omega) hq ho) (fun r1 M2 h => ?_)
  show mm_Runs L xs (d + 1) 201 (78, [some (.ref 84), some (.int v1), some (.int v2), some (.int v3), some (.int v4), some (.int v5), z6], [.long r1], M2) o
  refine mm_Runs.seq (l := [(78, .ldc2_w 188, 3)]) (S2 := (81, [some (.ref 84), some (.int v1), some (.int v2), some (.int v3), some (.int v4), some (.int v5), z6], [.long (1048576 : Int64), .long r1], M2)) (by decide +kernel) (hO := mm_own_201) rfl ?_
  refine mm_R_leq (t := 106) rfl rfl rfl rfl (fun hc => ?_) (fun hc => ?_)
  · replace h := mm_ip hc h
    refine mm_Runs.seq (l := [(106, .iconst 1, 1), (107, .goto 4, 3)]) (S2 := (111, [some (.ref 84), some (.int v1), some (.int v2), some (.int v3), some (.int v4), some (.int v5), z6], [.int (1 : Int32)], M2)) (by decide +kernel) (hO := mm_own_201) rfl ?_
    cases h
    exact mm_R_retb rfl rfl rfl hA
  · replace h := mm_iq hc h
    refine mm_Runs.seq (l := [(85, .iload 4, 2), (87, .iconst 1, 1)]) (S2 := (88, [some (.ref 84), some (.int v1), some (.int v2), some (.int v3), some (.int v4), some (.int v5), z6], [.int (1 : Int32), .int v4], M2)) (by decide +kernel) (hO := mm_own_201) rfl ?_
    refine mm_R_ine (t := 97) rfl rfl rfl (fun hc => ?_) (fun hc => ?_)
    · replace h := mm_ip hc h
      refine mm_Runs.seq (l := [(91, .iload 5, 2), (93, .iconst 1, 1)]) (S2 := (94, [some (.ref 84), some (.int v1), some (.int v2), some (.int v3), some (.int v4), some (.int v5), z6], [.int (1 : Int32), .int v5], M2)) (by decide +kernel) (hO := mm_own_201) rfl ?_
      refine mm_R_ieq (t := 106) rfl rfl rfl (fun hc => ?_) (fun hc => ?_)
      · replace h := mm_ip hc h
        refine mm_Runs.seq (l := [(106, .iconst 1, 1), (107, .goto 4, 3)]) (S2 := (111, [some (.ref 84), some (.int v1), some (.int v2), some (.int v3), some (.int v4), some (.int v5), z6], [.int (1 : Int32)], M2)) (by decide +kernel) (hO := mm_own_201) rfl ?_
        cases h
        exact mm_R_retb rfl rfl rfl hA
      · replace h := mm_iq hc h
        exact (ms_201_j97 hd h hA : mp_201_97 L xs (d + 1) v3 v4 M2 o) (some (.ref 84)) (some (.int v1)) (some (.int v2)) (some (.int v5)) z6
    · replace h := mm_iq hc h
      exact (ms_201_j97 hd h hA : mp_201_97 L xs (d + 1) v3 v4 M2 o) (some (.ref 84)) (some (.int v1)) (some (.int v2)) (some (.int v5)) z6
noncomputable def mf_201 (v1 : Int32) (v2 : Int32) (v3 : Int32) (M : mm_M) : mm_O Int32 := mm_B (mf_201_L13 v1 v2 v3 ((0 : Int32), (0 : Int32), ((300 : Int32) * v1)) M) (fun r2 M1 => mf_201_j72 v1 v2 v3 r2.1 r2.2 M1)
set_option maxRecDepth 8000 in
set_option maxHeartbeats 4000000 in
theorem ms_201 {L : Nat} {xs : Nat → Int32} {d : Nat} (hd : 1 ≤ d) {v1 : Int32} {v2 : Int32} {v3 : Int32} {M : mm_M} {q : (Int32 ⊕ Nat) × mm_M} {o : mm_E} (h : mf_201 v1 v2 v3 M = some q) (hA : mm_A (mm_Kr mm_wi) q o) : mm_Runs L xs d 201 (0, mm_ent (mm_ml 201) [.ref 84, .int v1, .int v2, .int v3], [], M) o := by
  unfold mf_201 at h
  obtain ⟨d, rfl⟩ := mm_d1 (n := 0) hd
  show mm_Runs L xs (d + 1) 201 (0, [some (.ref 84), some (.int v1), some (.int v2), some (.int v3), none, none, none], [], M) o
  refine mm_Runs.seq (l := [(0, .iconst 0, 1), (1, .istore 4, 2), (3, .iconst 0, 1), (4, .istore 5, 2), (6, .sipush 300, 3), (9, .iload_n 1, 1), (10, .imul, 1), (11, .istore 6, 2)]) (S2 := (13, [some (.ref 84), some (.int v1), some (.int v2), some (.int v3), some (.int (0 : Int32)), some (.int (0 : Int32)), some (.int ((300 : Int32) * v1))], [], M)) (by decide +kernel) (hO := mm_own_201) rfl ?_
  have hp : mp_201_13 L xs (d + 1) v1 v2 v3 (0 : Int32) (0 : Int32) ((300 : Int32) * v1) M o := by
    refine ms_201_L13 hd h hA (fun r2 M1 h => ?_)
    intro y3
    show mm_Runs L xs (d + 1) 201 (72, [some (.ref 84), some (.int v1), some (.int v2), some (.int v3), some (.int r2.1), some (.int r2.2), y3], [], M1) o
    exact (ms_201_j72 hd h hA : mp_201_72 L xs (d + 1) v1 v2 v3 r2.1 r2.2 M1 o) y3
  exact hp
-- 202: PlainPacksModel.decode(II)I (depth 3)
theorem mm_own_202 : mm_own 202 = 12 := rfl
def mp_202_12 (L : Nat) (xs : Nat → Int32) (d : Nat) (v2 : Int32) (v3 : Int32) (v4 : Int32) (v5 : Int32) (M : mm_M) (o : mm_E) : Prop := ∀ z1 z6 z7 : Option Value, mm_Runs L xs d 202 (12, [some (.ref 84), z1, some (.int v2), some (.int v3), some (.int v4), some (.int v5), z6, z7], [], M) o
def mp_202_91 (L : Nat) (xs : Nat → Int32) (d : Nat) (M : mm_M) (o : mm_E) : Prop := ∀ z1 z2 z3 z4 z5 z6 z7 : Option Value, mm_Runs L xs d 202 (91, [some (.ref 84), z1, z2, z3, z4, z5, z6, z7], [], M) o
def mp_202_153 (L : Nat) (xs : Nat → Int32) (d : Nat) (v3 : Int32) (v7 : Int32) (M : mm_M) (o : mm_E) : Prop := ∀ z0 z1 z2 z4 z5 z6 : Option Value, mm_Runs L xs d 202 (153, [z0, z1, z2, some (.int v3), z4, z5, z6, some (.int v7)], [], M) o
def mp_202_167 (L : Nat) (xs : Nat → Int32) (d : Nat) (M : mm_M) (o : mm_E) : Prop := ∀ z0 z1 z2 z3 z4 z5 z6 z7 : Option Value, mm_Runs L xs d 202 (167, [z0, z1, z2, z3, z4, z5, z6, z7], [], M) o
def mp_202_25 (L : Nat) (xs : Nat → Int32) (d : Nat) (v2 : Int32) (v3 : Int32) (v4 : Int32) (v5 : Int32) (v6 : Int32) (v7 : Int32) (M : mm_M) (o : mm_E) : Prop := ∀ z1 : Option Value, mm_Runs L xs d 202 (25, [some (.ref 84), z1, some (.int v2), some (.int v3), some (.int v4), some (.int v5), some (.int v6), some (.int v7)], [], M) o
def mp_202_86 (L : Nat) (xs : Nat → Int32) (d : Nat) (v2 : Int32) (v3 : Int32) (v4 : Int32) (v5 : Int32) (v6 : Int32) (M : mm_M) (o : mm_E) : Prop := ∀ z1 z7 : Option Value, mm_Runs L xs d 202 (86, [some (.ref 84), z1, some (.int v2), some (.int v3), some (.int v4), some (.int v5), some (.int v6), z7], [], M) o
noncomputable def mf_202_b25 (v2 : Int32) (v3 : Int32) (v4 : Int32) (v5 : Int32) (v6 : Int32) (v7 : Int32) (M : mm_M) : mm_O ((Int32 × Int32) ⊕ (Int32)) := if v7 < (v3 + v2) then (if v6 = 0 then (if mm_in v7 2100 then if v5 < (M.1 87 v7.toNatClampNeg) then (if mm_in v7 2100 then if mm_in v7 2100 then if (mm_shr (M.1 88 v7.toNatClampNeg) ((M.1 87 v7.toNatClampNeg) - v5)) = v4 then (some (.inl (.inl ((1 : Int32), (v7 + (1 : Int32)))), M)) else (some (.inl (.inl ((0 : Int32), (v7 + (1 : Int32)))), M)) else none else none) else (some (.inl (.inl ((0 : Int32), (v7 + (1 : Int32)))), M)) else none) else (some (.inl (.inl ((1 : Int32), (v7 + (1 : Int32)))), M))) else (some (.inl (.inr v6), M))
noncomputable def mf_202_L25 (v2 : Int32) (v3 : Int32) (v4 : Int32) (v5 : Int32) (s : Int32 × Int32) (M : mm_M) : mm_O (Int32) := mm_L (fun s M => mf_202_b25 v2 v3 v4 v5 s.1 s.2 M) s M
set_option maxRecDepth 8000 in
set_option maxHeartbeats 4000000 in
theorem ms_202_b25 {L : Nat} {xs : Nat → Int32} {d : Nat} (hd : 3 ≤ d) {v2 : Int32} {v3 : Int32} {v4 : Int32} {v5 : Int32} {v6 : Int32} {v7 : Int32} {M : mm_M} {q : (((Int32 × Int32) ⊕ (Int32)) ⊕ Nat) × mm_M} {o : mm_E} (h : mf_202_b25 v2 v3 v4 v5 v6 v7 M = some q) (hA : mm_A (mm_K2 (fun s M o => mp_202_25 L xs (d) v2 v3 v4 v5 s.1 s.2 M o) (fun r M o => mp_202_86 L xs (d) v2 v3 v4 v5 r M o)) q o) : mp_202_25 L xs d v2 v3 v4 v5 v6 v7 M o := by
  unfold mf_202_b25 at h
  obtain ⟨d, rfl⟩ := mm_d1 (n := 2) hd
  intro z1
  show mm_Runs L xs (d + 1) 202 (25, [some (.ref 84), z1, some (.int v2), some (.int v3), some (.int v4), some (.int v5), some (.int v6), some (.int v7)], [], M) o
  refine mm_Runs.seq (l := [(25, .iload 7, 2), (27, .iload_n 3, 1), (28, .iload_n 2, 1), (29, .iadd, 1)]) (S2 := (30, [some (.ref 84), z1, some (.int v2), some (.int v3), some (.int v4), some (.int v5), some (.int v6), some (.int v7)], [.int (v3 + v2), .int v7], M)) (by decide +kernel) (hO := mm_own_202) rfl ?_
  refine mm_R_ige (t := 86) rfl rfl rfl (fun hc => ?_) (fun hc => ?_)
  · replace h := mm_ip hc h
    refine mm_Runs.seq (l := [(33, .iload 6, 2)]) (S2 := (35, [some (.ref 84), z1, some (.int v2), some (.int v3), some (.int v4), some (.int v5), some (.int v6), some (.int v7)], [.int v6], M)) (by decide +kernel) (hO := mm_own_202) rfl ?_
    refine mm_R_zne (t := 73) rfl rfl rfl (fun hc => ?_) (fun hc => ?_)
    · replace h := mm_ip hc h
      refine mm_Runs.seq (l := [(38, .aload_n 0, 1), (39, .getfield 16, 3), (42, .iload 7, 2)]) (S2 := (44, [some (.ref 84), z1, some (.int v2), some (.int v3), some (.int v4), some (.int v5), some (.int v6), some (.int v7)], [.int v7, .ref 87], M)) (by decide +kernel) (hO := mm_own_202) rfl ?_
      obtain ⟨hb, h⟩ := mm_gd h
      refine mm_R_iald rfl rfl hb ?_
      refine mm_Runs.seq (l := [(45, .iload 5, 2)]) (S2 := (47, [some (.ref 84), z1, some (.int v2), some (.int v3), some (.int v4), some (.int v5), some (.int v6), some (.int v7)], [.int v5, .int (M.1 87 v7.toNatClampNeg)], M)) (by decide +kernel) (hO := mm_own_202) rfl ?_
      refine mm_R_ile (t := 77) rfl rfl rfl (fun hc => ?_) (fun hc => ?_)
      · replace h := mm_ip hc h
        refine mm_Runs.seq (l := [(50, .aload_n 0, 1), (51, .getfield 19, 3), (54, .iload 7, 2)]) (S2 := (56, [some (.ref 84), z1, some (.int v2), some (.int v3), some (.int v4), some (.int v5), some (.int v6), some (.int v7)], [.int v7, .ref 88], M)) (by decide +kernel) (hO := mm_own_202) rfl ?_
        obtain ⟨hb, h⟩ := mm_gd h
        refine mm_R_iald rfl rfl hb ?_
        refine mm_Runs.seq (l := [(57, .aload_n 0, 1), (58, .getfield 16, 3), (61, .iload 7, 2)]) (S2 := (63, [some (.ref 84), z1, some (.int v2), some (.int v3), some (.int v4), some (.int v5), some (.int v6), some (.int v7)], [.int v7, .ref 87, .int (M.1 88 v7.toNatClampNeg)], M)) (by decide +kernel) (hO := mm_own_202) rfl ?_
        obtain ⟨hb, h⟩ := mm_gd h
        refine mm_R_iald rfl rfl hb ?_
        refine mm_Runs.seq (l := [(64, .iload 5, 2), (66, .isub, 1), (67, .ishr, 1), (68, .iload 4, 2)]) (S2 := (70, [some (.ref 84), z1, some (.int v2), some (.int v3), some (.int v4), some (.int v5), some (.int v6), some (.int v7)], [.int v4, .int (mm_shr (M.1 88 v7.toNatClampNeg) ((M.1 87 v7.toNatClampNeg) - v5))], M)) (by decide +kernel) (hO := mm_own_202) rfl ?_
        refine mm_R_ine (t := 77) rfl rfl rfl (fun hc => ?_) (fun hc => ?_)
        · replace h := mm_ip hc h
          refine mm_Runs.seq (l := [(73, .iconst 1, 1), (74, .goto 4, 3), (78, .istore 6, 2), (80, .iinc 7 1, 3), (83, .goto (-58), 3)]) (S2 := (25, [some (.ref 84), z1, some (.int v2), some (.int v3), some (.int v4), some (.int v5), some (.int (1 : Int32)), some (.int (v7 + (1 : Int32)))], [], M)) (by decide +kernel) (hO := mm_own_202) rfl ?_
          cases h
          exact (show mp_202_25 L xs (d + 1) v2 v3 v4 v5 (1 : Int32) (v7 + (1 : Int32)) M o from hA) z1
        · replace h := mm_iq hc h
          refine mm_Runs.seq (l := [(77, .iconst 0, 1), (78, .istore 6, 2), (80, .iinc 7 1, 3), (83, .goto (-58), 3)]) (S2 := (25, [some (.ref 84), z1, some (.int v2), some (.int v3), some (.int v4), some (.int v5), some (.int (0 : Int32)), some (.int (v7 + (1 : Int32)))], [], M)) (by decide +kernel) (hO := mm_own_202) rfl ?_
          cases h
          exact (show mp_202_25 L xs (d + 1) v2 v3 v4 v5 (0 : Int32) (v7 + (1 : Int32)) M o from hA) z1
      · replace h := mm_iq hc h
        refine mm_Runs.seq (l := [(77, .iconst 0, 1), (78, .istore 6, 2), (80, .iinc 7 1, 3), (83, .goto (-58), 3)]) (S2 := (25, [some (.ref 84), z1, some (.int v2), some (.int v3), some (.int v4), some (.int v5), some (.int (0 : Int32)), some (.int (v7 + (1 : Int32)))], [], M)) (by decide +kernel) (hO := mm_own_202) rfl ?_
        cases h
        exact (show mp_202_25 L xs (d + 1) v2 v3 v4 v5 (0 : Int32) (v7 + (1 : Int32)) M o from hA) z1
    · replace h := mm_iq hc h
      refine mm_Runs.seq (l := [(73, .iconst 1, 1), (74, .goto 4, 3), (78, .istore 6, 2), (80, .iinc 7 1, 3), (83, .goto (-58), 3)]) (S2 := (25, [some (.ref 84), z1, some (.int v2), some (.int v3), some (.int v4), some (.int v5), some (.int (1 : Int32)), some (.int (v7 + (1 : Int32)))], [], M)) (by decide +kernel) (hO := mm_own_202) rfl ?_
      cases h
      exact (show mp_202_25 L xs (d + 1) v2 v3 v4 v5 (1 : Int32) (v7 + (1 : Int32)) M o from hA) z1
  · replace h := mm_iq hc h
    cases h
    exact (show mp_202_86 L xs (d + 1) v2 v3 v4 v5 v6 M o from hA) z1 (some (.int v7))
theorem ms_202_L25 {L : Nat} {xs : Nat → Int32} {d : Nat} (hd : 3 ≤ d) {v2 : Int32} {v3 : Int32} {v4 : Int32} {v5 : Int32} {v6 : Int32} {v7 : Int32} {β : Type} {K : β → mm_M → mm_E → Prop} {F : (Int32) → mm_M → mm_O β} {M : mm_M} {q : (β ⊕ Nat) × mm_M} {o : mm_E} (h : mm_B (mf_202_L25 v2 v3 v4 v5 (v6, v7) M) F = some q) (hA : mm_A K q o) (hx : ∀ (r : (Int32)) (M2 : mm_M), F r M2 = some q → (fun r M o => mp_202_86 L xs (d) v2 v3 v4 v5 r M o) r M2 o) : mp_202_25 L xs d v2 v3 v4 v5 v6 v7 M o := mm_R_loop (s := (v6, v7)) (M := M) (P := (fun s M o => mp_202_25 L xs (d) v2 v3 v4 v5 s.1 s.2 M o)) (X := (fun r M o => mp_202_86 L xs (d) v2 v3 v4 v5 r M o)) h hA (fun s M q hq hA => ms_202_b25 hd hq hA) hx
def mp_202_114 (L : Nat) (xs : Nat → Int32) (d : Nat) (v2 : Int32) (v3 : Int32) (v4 : Int32) (v5 : Int32) (v7 : Int32) (M : mm_M) (o : mm_E) : Prop := ∀ z1 z6 : Option Value, mm_Runs L xs d 202 (114, [some (.ref 84), z1, some (.int v2), some (.int v3), some (.int v4), some (.int v5), z6, some (.int v7)], [], M) o
def mp_202_164 (L : Nat) (xs : Nat → Int32) (d : Nat) (v2 : Int32) (v3 : Int32) (v4 : Int32) (v5 : Int32) (M : mm_M) (o : mm_E) : Prop := ∀ z1 z6 z7 : Option Value, mm_Runs L xs d 202 (164, [some (.ref 84), z1, some (.int v2), some (.int v3), some (.int v4), some (.int v5), z6, z7], [], M) o
noncomputable def mf_202_b114 (v2 : Int32) (v3 : Int32) (v4 : Int32) (v5 : Int32) (v7 : Int32) (M : mm_M) : mm_O ((Int32) ⊕ ((Int32) ⊕ (Unit))) := if v7 < (v3 + v2) then (if (M.1 84 7) = 0 then (if mm_in v7 2100 then if (M.1 87 v7.toNatClampNeg) = v5 then (if mm_in v7 2100 then if (M.1 88 v7.toNatClampNeg) = v4 then (some (.inl (.inr (.inl v7)), M)) else (some (.inl (.inl (v7 + (1 : Int32))), M)) else none) else (some (.inl (.inl (v7 + (1 : Int32))), M)) else none) else (some (.inl (.inr (.inr ())), M))) else (some (.inl (.inr (.inr ())), M))
noncomputable def mf_202_L114 (v2 : Int32) (v3 : Int32) (v4 : Int32) (v5 : Int32) (s : Int32) (M : mm_M) : mm_O ((Int32) ⊕ (Unit)) := mm_L (fun s M => mf_202_b114 v2 v3 v4 v5 s M) s M
set_option maxRecDepth 8000 in
set_option maxHeartbeats 4000000 in
theorem ms_202_b114 {L : Nat} {xs : Nat → Int32} {d : Nat} (hd : 3 ≤ d) {v2 : Int32} {v3 : Int32} {v4 : Int32} {v5 : Int32} {v7 : Int32} {M : mm_M} {q : (((Int32) ⊕ ((Int32) ⊕ (Unit))) ⊕ Nat) × mm_M} {o : mm_E} (h : mf_202_b114 v2 v3 v4 v5 v7 M = some q) (hA : mm_A (mm_K2 (fun s M o => mp_202_114 L xs (d) v2 v3 v4 v5 s M o) (fun r M o => mm_sm (fun r => mp_202_153 L xs (d) v3 r M o) (fun r => mp_202_164 L xs (d) v2 v3 v4 v5 M o) r)) q o) : mp_202_114 L xs d v2 v3 v4 v5 v7 M o := by
  unfold mf_202_b114 at h
  obtain ⟨d, rfl⟩ := mm_d1 (n := 2) hd
  intro z1 z6
  show mm_Runs L xs (d + 1) 202 (114, [some (.ref 84), z1, some (.int v2), some (.int v3), some (.int v4), some (.int v5), z6, some (.int v7)], [], M) o
  refine mm_Runs.seq (l := [(114, .iload 7, 2), (116, .iload_n 3, 1), (117, .iload_n 2, 1), (118, .iadd, 1)]) (S2 := (119, [some (.ref 84), z1, some (.int v2), some (.int v3), some (.int v4), some (.int v5), z6, some (.int v7)], [.int (v3 + v2), .int v7], M)) (by decide +kernel) (hO := mm_own_202) rfl ?_
  refine mm_R_ige (t := 164) rfl rfl rfl (fun hc => ?_) (fun hc => ?_)
  · replace h := mm_ip hc h
    refine mm_Runs.seq (l := [(122, .aload_n 0, 1), (123, .getfield 154, 3)]) (S2 := (126, [some (.ref 84), z1, some (.int v2), some (.int v3), some (.int v4), some (.int v5), z6, some (.int v7)], [.int (M.1 84 7)], M)) (by decide +kernel) (hO := mm_own_202) rfl ?_
    refine mm_R_zne (t := 164) rfl rfl rfl (fun hc => ?_) (fun hc => ?_)
    · replace h := mm_ip hc h
      refine mm_Runs.seq (l := [(129, .aload_n 0, 1), (130, .getfield 16, 3), (133, .iload 7, 2)]) (S2 := (135, [some (.ref 84), z1, some (.int v2), some (.int v3), some (.int v4), some (.int v5), z6, some (.int v7)], [.int v7, .ref 87], M)) (by decide +kernel) (hO := mm_own_202) rfl ?_
      obtain ⟨hb, h⟩ := mm_gd h
      refine mm_R_iald rfl rfl hb ?_
      refine mm_Runs.seq (l := [(136, .iload 5, 2)]) (S2 := (138, [some (.ref 84), z1, some (.int v2), some (.int v3), some (.int v4), some (.int v5), z6, some (.int v7)], [.int v5, .int (M.1 87 v7.toNatClampNeg)], M)) (by decide +kernel) (hO := mm_own_202) rfl ?_
      refine mm_R_ine (t := 158) rfl rfl rfl (fun hc => ?_) (fun hc => ?_)
      · replace h := mm_ip hc h
        refine mm_Runs.seq (l := [(141, .aload_n 0, 1), (142, .getfield 19, 3), (145, .iload 7, 2)]) (S2 := (147, [some (.ref 84), z1, some (.int v2), some (.int v3), some (.int v4), some (.int v5), z6, some (.int v7)], [.int v7, .ref 88], M)) (by decide +kernel) (hO := mm_own_202) rfl ?_
        obtain ⟨hb, h⟩ := mm_gd h
        refine mm_R_iald rfl rfl hb ?_
        refine mm_Runs.seq (l := [(148, .iload 4, 2)]) (S2 := (150, [some (.ref 84), z1, some (.int v2), some (.int v3), some (.int v4), some (.int v5), z6, some (.int v7)], [.int v4, .int (M.1 88 v7.toNatClampNeg)], M)) (by decide +kernel) (hO := mm_own_202) rfl ?_
        refine mm_R_ine (t := 158) rfl rfl rfl (fun hc => ?_) (fun hc => ?_)
        · replace h := mm_ip hc h
          cases h
          exact (show mp_202_153 L xs (d + 1) v3 v7 M o from hA) (some (.ref 84)) z1 (some (.int v2)) (some (.int v4)) (some (.int v5)) z6
        · replace h := mm_iq hc h
          refine mm_Runs.seq (l := [(158, .iinc 7 1, 3), (161, .goto (-47), 3)]) (S2 := (114, [some (.ref 84), z1, some (.int v2), some (.int v3), some (.int v4), some (.int v5), (mm_no2 z6), some (.int (v7 + (1 : Int32)))], [], M)) (by decide +kernel) (hO := mm_own_202) rfl ?_
          cases h
          exact (show mp_202_114 L xs (d + 1) v2 v3 v4 v5 (v7 + (1 : Int32)) M o from hA) z1 ((mm_no2 z6))
      · replace h := mm_iq hc h
        refine mm_Runs.seq (l := [(158, .iinc 7 1, 3), (161, .goto (-47), 3)]) (S2 := (114, [some (.ref 84), z1, some (.int v2), some (.int v3), some (.int v4), some (.int v5), (mm_no2 z6), some (.int (v7 + (1 : Int32)))], [], M)) (by decide +kernel) (hO := mm_own_202) rfl ?_
        cases h
        exact (show mp_202_114 L xs (d + 1) v2 v3 v4 v5 (v7 + (1 : Int32)) M o from hA) z1 ((mm_no2 z6))
    · replace h := mm_iq hc h
      cases h
      exact (show mp_202_164 L xs (d + 1) v2 v3 v4 v5 M o from hA) z1 z6 (some (.int v7))
  · replace h := mm_iq hc h
    cases h
    exact (show mp_202_164 L xs (d + 1) v2 v3 v4 v5 M o from hA) z1 z6 (some (.int v7))
theorem ms_202_L114 {L : Nat} {xs : Nat → Int32} {d : Nat} (hd : 3 ≤ d) {v2 : Int32} {v3 : Int32} {v4 : Int32} {v5 : Int32} {v7 : Int32} {β : Type} {K : β → mm_M → mm_E → Prop} {F : ((Int32) ⊕ (Unit)) → mm_M → mm_O β} {M : mm_M} {q : (β ⊕ Nat) × mm_M} {o : mm_E} (h : mm_B (mf_202_L114 v2 v3 v4 v5 v7 M) F = some q) (hA : mm_A K q o) (hx : ∀ (r : ((Int32) ⊕ (Unit))) (M2 : mm_M), F r M2 = some q → (fun r M o => mm_sm (fun r => mp_202_153 L xs (d) v3 r M o) (fun r => mp_202_164 L xs (d) v2 v3 v4 v5 M o) r) r M2 o) : mp_202_114 L xs d v2 v3 v4 v5 v7 M o := mm_R_loop (s := v7) (M := M) (P := (fun s M o => mp_202_114 L xs (d) v2 v3 v4 v5 s M o)) (X := (fun r M o => mm_sm (fun r => mp_202_153 L xs (d) v3 r M o) (fun r => mp_202_164 L xs (d) v2 v3 v4 v5 M o) r)) h hA (fun s M q hq hA => ms_202_b114 hd hq hA) hx
noncomputable def mf_202_j86 (v2 : Int32) (v3 : Int32) (v4 : Int32) (v5 : Int32) (v6 : Int32) (M : mm_M) : mm_O ((Int32 × Int32) ⊕ ((Unit) ⊕ ((Int32) ⊕ (Unit)))) := if v6 = 0 then (some (.inl (.inr (.inl ())), M)) else (mm_B (mf_197 M) (fun r1 M2 => mm_B (mf_202_L114 v2 v3 ((mm_shl v4 (1 : Int32)) ||| r1) (v5 + (1 : Int32)) v3 M2) (fun r4 M3 => mm_sm (fun r4 => some (.inl (.inr (.inr (.inl r4))), M3)) (fun r4 => some (.inl (.inl (((mm_shl v4 (1 : Int32)) ||| r1), (v5 + (1 : Int32)))), M3)) r4)))
set_option maxRecDepth 8000 in
set_option maxHeartbeats 4000000 in
theorem ms_202_j86 {L : Nat} {xs : Nat → Int32} {d : Nat} (hd : 3 ≤ d) {v2 : Int32} {v3 : Int32} {v4 : Int32} {v5 : Int32} {v6 : Int32} {M : mm_M} {q : (((Int32 × Int32) ⊕ ((Unit) ⊕ ((Int32) ⊕ (Unit)))) ⊕ Nat) × mm_M} {o : mm_E} (h : mf_202_j86 v2 v3 v4 v5 v6 M = some q) (hA : mm_A (mm_K2 (fun s M o => mp_202_12 L xs (d) v2 v3 s.1 s.2 M o) (fun r M o => mm_sm (fun r => mp_202_91 L xs (d) M o) (fun r => mm_sm (fun r => mp_202_153 L xs (d) v3 r M o) (fun r => mp_202_167 L xs (d) M o) r) r)) q o) : mp_202_86 L xs d v2 v3 v4 v5 v6 M o := by
  unfold mf_202_j86 at h
  obtain ⟨d, rfl⟩ := mm_d1 (n := 2) hd
  intro z1 z7
  show mm_Runs L xs (d + 1) 202 (86, [some (.ref 84), z1, some (.int v2), some (.int v3), some (.int v4), some (.int v5), some (.int v6), z7], [], M) o
  refine mm_Runs.seq (l := [(86, .iload 6, 2)]) (S2 := (88, [some (.ref 84), z1, some (.int v2), some (.int v3), some (.int v4), some (.int v5), some (.int v6), z7], [.int v6], M)) (by decide +kernel) (hO := mm_own_202) rfl ?_
  refine mm_R_zne (t := 97) rfl rfl rfl (fun hc => ?_) (fun hc => ?_)
  · replace h := mm_ip hc h
    cases h
    exact (show mp_202_91 L xs (d + 1) M o from hA) z1 (some (.int v2)) (some (.int v3)) (some (.int v4)) (some (.int v5)) (some (.int v6)) z7
  · replace h := mm_iq hc h
    refine mm_Runs.seq (l := [(97, .iload 4, 2), (99, .iconst 1, 1), (100, .ishl, 1), (101, .aload_n 0, 1)]) (S2 := (102, [some (.ref 84), z1, some (.int v2), some (.int v3), some (.int v4), some (.int v5), some (.int v6), z7], [.ref 84, .int (mm_shl v4 (1 : Int32))], M)) (by decide +kernel) (hO := mm_own_202) rfl ?_
    refine mm_R_call (v := mm_wi) h hA (k2 := 197) (as := [.ref 84]) (r := [.int (mm_shl v4 (1 : Int32))]) rfl (fun _ => rfl) (fun q hq o ho => ms_197 (by omega) hq ho) (fun r1 M2 h => ?_)
    show mm_Runs L xs (d + 1) 202 (105, [some (.ref 84), z1, some (.int v2), some (.int v3), some (.int v4), some (.int v5), some (.int v6), z7], [.int r1, .int (mm_shl v4 (1 : Int32))], M2) o
    refine mm_Runs.seq (l := [(105, .ior, 1), (106, .istore 4, 2), (108, .iinc 5 1, 3), (111, .iload_n 3, 1), (112, .istore 7, 2)]) (S2 := (114, [some (.ref 84), z1, some (.int v2), some (.int v3), some (.int ((mm_shl v4 (1 : Int32)) ||| r1)), some (.int (v5 + (1 : Int32))), some (.int v6), some (.int v3)], [], M2)) (by decide +kernel) (hO := mm_own_202) rfl ?_
    have hp : mp_202_114 L xs (d + 1) v2 v3 ((mm_shl v4 (1 : Int32)) ||| r1) (v5 + (1 : Int32)) v3 M2 o := by
      refine ms_202_L114 hd h hA (fun r4 M3 h => ?_)
      rcases r4 with r4 | r4
      · dsimp only [mm_sm] at h
        intro y5 y6 y7 y8 y9 y10
        show mm_Runs L xs (d + 1) 202 (153, [y5, y6, y7, some (.int v3), y8, y9, y10, some (.int r4)], [], M3) o
        cases h
        exact (show mp_202_153 L xs (d + 1) v3 r4 M3 o from hA) y5 y6 y7 y8 y9 y10
      · dsimp only [mm_sm] at h
        intro y11 y12 y13
        show mm_Runs L xs (d + 1) 202 (164, [some (.ref 84), y11, some (.int v2), some (.int v3), some (.int ((mm_shl v4 (1 : Int32)) ||| r1)), some (.int (v5 + (1 : Int32))), y12, y13], [], M3) o
        refine mm_Runs.seq (l := [(164, .goto (-152), 3)]) (S2 := (12, [some (.ref 84), y11, some (.int v2), some (.int v3), some (.int ((mm_shl v4 (1 : Int32)) ||| r1)), some (.int (v5 + (1 : Int32))), y12, y13], [], M3)) (by decide +kernel) (hO := mm_own_202) rfl ?_
        cases h
        exact (show mp_202_12 L xs (d + 1) v2 v3 ((mm_shl v4 (1 : Int32)) ||| r1) (v5 + (1 : Int32)) M3 o from hA) y11 y12 y13
    exact hp z1 (some (.int v6))
noncomputable def mf_202_b12 (v2 : Int32) (v3 : Int32) (v4 : Int32) (v5 : Int32) (M : mm_M) : mm_O ((Int32 × Int32) ⊕ ((Unit) ⊕ ((Int32) ⊕ (Unit)))) := if (M.1 84 7) = 0 then (mm_B (mf_202_L25 v2 v3 v4 v5 ((0 : Int32), v3) M) (fun r2 M1 => mf_202_j86 v2 v3 v4 v5 r2 M1)) else (some (.inl (.inr (.inr (.inr ()))), M))
noncomputable def mf_202_L12 (v2 : Int32) (v3 : Int32) (s : Int32 × Int32) (M : mm_M) : mm_O ((Unit) ⊕ ((Int32) ⊕ (Unit))) := mm_L (fun s M => mf_202_b12 v2 v3 s.1 s.2 M) s M
set_option maxRecDepth 8000 in
set_option maxHeartbeats 4000000 in
theorem ms_202_b12 {L : Nat} {xs : Nat → Int32} {d : Nat} (hd : 3 ≤ d) {v2 : Int32} {v3 : Int32} {v4 : Int32} {v5 : Int32} {M : mm_M} {q : (((Int32 × Int32) ⊕ ((Unit) ⊕ ((Int32) ⊕ (Unit)))) ⊕ Nat) × mm_M} {o : mm_E} (h : mf_202_b12 v2 v3 v4 v5 M = some q) (hA : mm_A (mm_K2 (fun s M o => mp_202_12 L xs (d) v2 v3 s.1 s.2 M o) (fun r M o => mm_sm (fun r => mp_202_91 L xs (d) M o) (fun r => mm_sm (fun r => mp_202_153 L xs (d) v3 r M o) (fun r => mp_202_167 L xs (d) M o) r) r)) q o) : mp_202_12 L xs d v2 v3 v4 v5 M o := by
  unfold mf_202_b12 at h
  obtain ⟨d, rfl⟩ := mm_d1 (n := 2) hd
  intro z1 z6 z7
  show mm_Runs L xs (d + 1) 202 (12, [some (.ref 84), z1, some (.int v2), some (.int v3), some (.int v4), some (.int v5), z6, z7], [], M) o
  refine mm_Runs.seq (l := [(12, .aload_n 0, 1), (13, .getfield 154, 3)]) (S2 := (16, [some (.ref 84), z1, some (.int v2), some (.int v3), some (.int v4), some (.int v5), z6, z7], [.int (M.1 84 7)], M)) (by decide +kernel) (hO := mm_own_202) rfl ?_
  refine mm_R_zne (t := 167) rfl rfl rfl (fun hc => ?_) (fun hc => ?_)
  · replace h := mm_ip hc h
    refine mm_Runs.seq (l := [(19, .iconst 0, 1), (20, .istore 6, 2), (22, .iload_n 3, 1), (23, .istore 7, 2)]) (S2 := (25, [some (.ref 84), z1, some (.int v2), some (.int v3), some (.int v4), some (.int v5), some (.int (0 : Int32)), some (.int v3)], [], M)) (by decide +kernel) (hO := mm_own_202) rfl ?_
    have hp : mp_202_25 L xs (d + 1) v2 v3 v4 v5 (0 : Int32) v3 M o := by
      refine ms_202_L25 hd h hA (fun r2 M1 h => ?_)
      intro y3 y4
      show mm_Runs L xs (d + 1) 202 (86, [some (.ref 84), y3, some (.int v2), some (.int v3), some (.int v4), some (.int v5), some (.int r2), y4], [], M1) o
      exact (ms_202_j86 hd h hA : mp_202_86 L xs (d + 1) v2 v3 v4 v5 r2 M1 o) y3 y4
    exact hp z1
  · replace h := mm_iq hc h
    cases h
    exact (show mp_202_167 L xs (d + 1) M o from hA) (some (.ref 84)) z1 (some (.int v2)) (some (.int v3)) (some (.int v4)) (some (.int v5)) z6 z7
theorem ms_202_L12 {L : Nat} {xs : Nat → Int32} {d : Nat} (hd : 3 ≤ d) {v2 : Int32} {v3 : Int32} {v4 : Int32} {v5 : Int32} {β : Type} {K : β → mm_M → mm_E → Prop} {F : ((Unit) ⊕ ((Int32) ⊕ (Unit))) → mm_M → mm_O β} {M : mm_M} {q : (β ⊕ Nat) × mm_M} {o : mm_E} (h : mm_B (mf_202_L12 v2 v3 (v4, v5) M) F = some q) (hA : mm_A K q o) (hx : ∀ (r : ((Unit) ⊕ ((Int32) ⊕ (Unit)))) (M2 : mm_M), F r M2 = some q → (fun r M o => mm_sm (fun r => mp_202_91 L xs (d) M o) (fun r => mm_sm (fun r => mp_202_153 L xs (d) v3 r M o) (fun r => mp_202_167 L xs (d) M o) r) r) r M2 o) : mp_202_12 L xs d v2 v3 v4 v5 M o := mm_R_loop (s := (v4, v5)) (M := M) (P := (fun s M o => mp_202_12 L xs (d) v2 v3 s.1 s.2 M o)) (X := (fun r M o => mm_sm (fun r => mp_202_91 L xs (d) M o) (fun r => mm_sm (fun r => mp_202_153 L xs (d) v3 r M o) (fun r => mp_202_167 L xs (d) M o) r) r)) h hA (fun s M q hq hA => ms_202_b12 hd hq hA) hx
noncomputable def mf_202_j91 (M : mm_M) : mm_O Int32 := mm_B (mf_190 M) (fun _ M1 => some (.inl (0 : Int32), M1))
set_option maxRecDepth 8000 in
set_option maxHeartbeats 4000000 in
theorem ms_202_j91 {L : Nat} {xs : Nat → Int32} {d : Nat} (hd : 3 ≤ d) {M : mm_M} {q : (Int32 ⊕ Nat) × mm_M} {o : mm_E} (h : mf_202_j91 M = some q) (hA : mm_A (mm_Kr mm_wi) q o) : mp_202_91 L xs d M o := by
  unfold mf_202_j91 at h
  obtain ⟨d, rfl⟩ := mm_d1 (n := 2) hd
  intro z1 z2 z3 z4 z5 z6 z7
  show mm_Runs L xs (d + 1) 202 (91, [some (.ref 84), z1, z2, z3, z4, z5, z6, z7], [], M) o
  refine mm_Runs.seq (l := [(91, .aload_n 0, 1)]) (S2 := (92, [some (.ref 84), z1, z2, z3, z4, z5, z6, z7], [.ref 84], M)) (by decide +kernel) (hO := mm_own_202) rfl ?_
  refine mm_R_call (v := mm_wv) h hA (k2 := 190) (as := [.ref 84]) (r := []) rfl (fun _ => rfl) (fun q hq o ho => ms_190 (by omega) hq ho) (fun _ M1 h => ?_)
  show mm_Runs L xs (d + 1) 202 (95, [some (.ref 84), z1, z2, z3, z4, z5, z6, z7], [], M1) o
  refine mm_Runs.seq (l := [(95, .iconst 0, 1)]) (S2 := (96, [some (.ref 84), z1, z2, z3, z4, z5, z6, z7], [.int (0 : Int32)], M1)) (by decide +kernel) (hO := mm_own_202) rfl ?_
  cases h
  exact mm_R_reti rfl rfl hA
noncomputable def mf_202 (v1 : Int32) (v2 : Int32) (M : mm_M) : mm_O Int32 := mm_B (mf_202_L12 v2 ((300 : Int32) * v1) ((0 : Int32), (0 : Int32)) M) (fun r2 M1 => mm_sm (fun r2 => mf_202_j91 M1) (fun r2 => mm_sm (fun r2 => some (.inl (r2 - ((300 : Int32) * v1)), M1)) (fun r2 => some (.inl (0 : Int32), M1)) r2) r2)
set_option maxRecDepth 8000 in
set_option maxHeartbeats 4000000 in
theorem ms_202 {L : Nat} {xs : Nat → Int32} {d : Nat} (hd : 3 ≤ d) {v1 : Int32} {v2 : Int32} {M : mm_M} {q : (Int32 ⊕ Nat) × mm_M} {o : mm_E} (h : mf_202 v1 v2 M = some q) (hA : mm_A (mm_Kr mm_wi) q o) : mm_Runs L xs d 202 (0, mm_ent (mm_ml 202) [.ref 84, .int v1, .int v2], [], M) o := by
  unfold mf_202 at h
  obtain ⟨d, rfl⟩ := mm_d1 (n := 2) hd
  show mm_Runs L xs (d + 1) 202 (0, [some (.ref 84), some (.int v1), some (.int v2), none, none, none, none, none], [], M) o
  refine mm_Runs.seq (l := [(0, .sipush 300, 3), (3, .iload_n 1, 1), (4, .imul, 1), (5, .istore_n 3, 1), (6, .iconst 0, 1), (7, .istore 4, 2), (9, .iconst 0, 1), (10, .istore 5, 2)]) (S2 := (12, [some (.ref 84), some (.int v1), some (.int v2), some (.int ((300 : Int32) * v1)), some (.int (0 : Int32)), some (.int (0 : Int32)), none, none], [], M)) (by decide +kernel) (hO := mm_own_202) rfl ?_
  have hp : mp_202_12 L xs (d + 1) v2 ((300 : Int32) * v1) (0 : Int32) (0 : Int32) M o := by
    refine ms_202_L12 hd h hA (fun r2 M1 h => ?_)
    rcases r2 with r2 | r2
    · dsimp only [mm_sm] at h
      intro y3 y4 y5 y6 y7 y8 y9
      show mm_Runs L xs (d + 1) 202 (91, [some (.ref 84), y3, y4, y5, y6, y7, y8, y9], [], M1) o
      exact (ms_202_j91 hd h hA : mp_202_91 L xs (d + 1) M1 o) y3 y4 y5 y6 y7 y8 y9
    · dsimp only [mm_sm] at h
      rcases r2 with r2 | r2
      · dsimp only [mm_sm] at h
        intro y10 y11 y12 y13 y14 y15
        show mm_Runs L xs (d + 1) 202 (153, [y10, y11, y12, some (.int ((300 : Int32) * v1)), y13, y14, y15, some (.int r2)], [], M1) o
        refine mm_Runs.seq (l := [(153, .iload 7, 2), (155, .iload_n 3, 1), (156, .isub, 1)]) (S2 := (157, [y10, y11, y12, some (.int ((300 : Int32) * v1)), y13, y14, y15, some (.int r2)], [.int (r2 - ((300 : Int32) * v1))], M1)) (by decide +kernel) (hO := mm_own_202) rfl ?_
        cases h
        exact mm_R_reti rfl rfl hA
      · dsimp only [mm_sm] at h
        intro y16 y17 y18 y19 y20 y21 y22 y23
        show mm_Runs L xs (d + 1) 202 (167, [y16, y17, y18, y19, y20, y21, y22, y23], [], M1) o
        refine mm_Runs.seq (l := [(167, .iconst 0, 1)]) (S2 := (168, [y16, y17, y18, y19, y20, y21, y22, y23], [.int (0 : Int32)], M1)) (by decide +kernel) (hO := mm_own_202) rfl ?_
        cases h
        exact mm_R_reti rfl rfl hA
  exact hp (some (.int v1)) none none
