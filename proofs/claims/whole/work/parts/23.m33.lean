/-! MEANINGS 33 -/
-- 147: PlainPacks$Sorted.writeSorted()V (depth 5)
theorem mm_own_147 : mm_own 147 = 10 := rfl
def mp_147_88 (L : Nat) (xs : Nat → Int32) (d : Nat) (v1 : Int32) (M : mm_M) (o : mm_E) : Prop := mm_Runs L xs d 147 (88, [some (.ref 42), some (.int v1)], [], M) o
noncomputable def mf_147_j88 (v1 : Int32) (M : mm_M) : mm_O Unit := mm_B (mf_62 (25779555029136 : Int64) (48 : Int32) M) (fun _ M1 => mm_B (mf_62 v1.toInt64 (32 : Int32) M1) (fun _ M2 => mm_B (mf_64 M2) (fun _ M3 => some (.inl (), M3))))
set_option maxRecDepth 8000 in
set_option maxHeartbeats 4000000 in
theorem ms_147_j88 {L : Nat} {xs : Nat → Int32} {d : Nat} (hd : 5 ≤ d) {v1 : Int32} {M : mm_M} {q : (Unit ⊕ Nat) × mm_M} {o : mm_E} (h : mf_147_j88 v1 M = some q) (hA : mm_A (mm_Kr mm_wv) q o) : mp_147_88 L xs d v1 M o := by
  unfold mf_147_j88 at h
  obtain ⟨d, rfl⟩ := mm_d1 (n := 4) hd
  show mm_Runs L xs (d + 1) 147 (88, [some (.ref 42), some (.int v1)], [], M) o
  refine mm_Runs.seq (l := [(88, .aload_n 0, 1), (89, .getfield 44, 3), (92, .ldc2_w 74, 3), (95, .bipush 48, 2)]) (S2 := (97, [some (.ref 42), some (.int v1)], [.int (48 : Int32), .long (25779555029136 : Int64), .ref 5], M)) (by decide +kernel) (hO := mm_own_147) rfl ?_
  refine mm_R_call (v := mm_wv) h hA (k2 := 62) (as := [.ref 5, .long (25779555029136 : Int64), .int (48 : Int32)]) (r := []) rfl (fun _ => rfl) (fun q hq o ho => ms_62 (by omega) hq ho) (fun _ M1 h => ?_)
  show mm_Runs L xs (d + 1) 147 (100, [some (.ref 42), some (.int v1)], [], M1) o
  refine mm_Runs.seq (l := [(100, .aload_n 0, 1), (101, .getfield 44, 3), (104, .iload_n 1, 1), (105, .i2l, 1), (106, .bipush 32, 2)]) (S2 := (108, [some (.ref 42), some (.int v1)], [.int (32 : Int32), .long v1.toInt64, .ref 5], M1)) (by decide +kernel) (hO := mm_own_147) rfl ?_
  refine mm_R_call (v := mm_wv) h hA (k2 := 62) (as := [.ref 5, .long v1.toInt64, .int (32 : Int32)]) (r := []) rfl (fun _ => rfl) (fun q hq o ho => ms_62 (by omega) hq ho) (fun _ M2 h => ?_)
  show mm_Runs L xs (d + 1) 147 (111, [some (.ref 42), some (.int v1)], [], M2) o
  refine mm_Runs.seq (l := [(111, .aload_n 0, 1), (112, .getfield 44, 3)]) (S2 := (115, [some (.ref 42), some (.int v1)], [.ref 5], M2)) (by decide +kernel) (hO := mm_own_147) rfl ?_
  refine mm_R_call (v := mm_wv) h hA (k2 := 64) (as := [.ref 5]) (r := []) rfl (fun _ => rfl) (fun q hq o ho => ms_64 (by omega) hq ho) (fun _ M3 h => ?_)
  show mm_Runs L xs (d + 1) 147 (118, [some (.ref 42), some (.int v1)], [], M3) o
  cases h
  exact mm_R_retv rfl rfl hA
noncomputable def mf_147 (M : mm_M) : mm_O Unit := mm_B (mf_57 (66 : Int32) (mm_pi M 5 3 (1 : Int32))) (fun _ M1 => mm_B (mf_57 (90 : Int32) M1) (fun _ M2 => mm_B (mf_57 (104 : Int32) M2) (fun _ M3 => mm_B (mf_57 (49 : Int32) M3) (fun _ M4 => if 0 < (M4.1 1 1) then (mm_B (mf_29 2 10000 (0 : Int32) (M4.1 1 1) M4) (fun r5 M6 => mm_B (mf_148 M6) (fun _ M7 => mm_B (mf_150 M7) (fun _ M8 => mm_B (mf_155 r5 M8) (fun _ M9 => mf_147_j88 r5 M9))))) else (mf_147_j88 (0 : Int32) M4)))))
set_option maxRecDepth 8000 in
set_option maxHeartbeats 4000000 in
theorem ms_147 {L : Nat} {xs : Nat → Int32} {d : Nat} (hd : 5 ≤ d) {M : mm_M} {q : (Unit ⊕ Nat) × mm_M} {o : mm_E} (h : mf_147 M = some q) (hA : mm_A (mm_Kr mm_wv) q o) : mm_Runs L xs d 147 (0, mm_ent (mm_ml 147) [.ref 42], [], M) o := by
  unfold mf_147 at h
  obtain ⟨d, rfl⟩ := mm_d1 (n := 4) hd
  show mm_Runs L xs (d + 1) 147 (0, [some (.ref 42), none], [], M) o
  refine mm_Runs.seq (l := [(0, .aload_n 0, 1), (1, .getfield 44, 3), (4, .iconst 1, 1), (5, .putfield 163, 3), (8, .aload_n 0, 1), (9, .getfield 44, 3), (12, .bipush 66, 2)]) (S2 := (14, [some (.ref 42), none], [.int (66 : Int32), .ref 5], (mm_pi M 5 3 (1 : Int32)))) (by decide +kernel) (hO := mm_own_147) rfl ?_
  refine mm_R_call (v := mm_wv) h hA (k2 := 57) (as := [.ref 5, .int (66 : Int32)]) (r := []) rfl (fun _ => rfl) (fun q hq o ho => ms_57 (by omega) hq ho) (fun _ M1 h => ?_)
  show mm_Runs L xs (d + 1) 147 (17, [some (.ref 42), none], [], M1) o
  refine mm_Runs.seq (l := [(17, .aload_n 0, 1), (18, .getfield 44, 3), (21, .bipush 90, 2)]) (S2 := (23, [some (.ref 42), none], [.int (90 : Int32), .ref 5], M1)) (by decide +kernel) (hO := mm_own_147) rfl ?_
  refine mm_R_call (v := mm_wv) h hA (k2 := 57) (as := [.ref 5, .int (90 : Int32)]) (r := []) rfl (fun _ => rfl) (fun q hq o ho => ms_57 (by omega) hq ho) (fun _ M2 h => ?_)
  show mm_Runs L xs (d + 1) 147 (26, [some (.ref 42), none], [], M2) o
  refine mm_Runs.seq (l := [(26, .aload_n 0, 1), (27, .getfield 44, 3), (30, .bipush 104, 2)]) (S2 := (32, [some (.ref 42), none], [.int (104 : Int32), .ref 5], M2)) (by decide +kernel) (hO := mm_own_147) rfl ?_
  refine mm_R_call (v := mm_wv) h hA (k2 := 57) (as := [.ref 5, .int (104 : Int32)]) (r := []) rfl (fun _ => rfl) (fun q hq o ho => ms_57 (by omega) hq ho) (fun _ M3 h => ?_)
  show mm_Runs L xs (d + 1) 147 (35, [some (.ref 42), none], [], M3) o
  refine mm_Runs.seq (l := [(35, .aload_n 0, 1), (36, .getfield 44, 3), (39, .bipush 49, 2)]) (S2 := (41, [some (.ref 42), none], [.int (49 : Int32), .ref 5], M3)) (by decide +kernel) (hO := mm_own_147) rfl ?_
  refine mm_R_call (v := mm_wv) h hA (k2 := 57) (as := [.ref 5, .int (49 : Int32)]) (r := []) rfl (fun _ => rfl) (fun q hq o ho => ms_57 (by omega) hq ho) (fun _ M4 h => ?_)
  show mm_Runs L xs (d + 1) 147 (44, [some (.ref 42), none], [], M4) o
  refine mm_Runs.seq (l := [(44, .iconst 0, 1), (45, .istore_n 1, 1), (46, .aload_n 0, 1), (47, .getfield 36, 3), (50, .getfield 167, 3)]) (S2 := (53, [some (.ref 42), some (.int (0 : Int32))], [.int (M4.1 1 1)], M4)) (by decide +kernel) (hO := mm_own_147) rfl ?_
  refine mm_R_zle (t := 88) rfl rfl rfl (fun hc => ?_) (fun hc => ?_)
  · replace h := mm_ip hc h
    refine mm_Runs.seq (l := [(56, .aload_n 0, 1), (57, .getfield 36, 3), (60, .getfield 168, 3), (63, .iconst 0, 1), (64, .aload_n 0, 1), (65, .getfield 36, 3), (68, .getfield 167, 3)]) (S2 := (71, [some (.ref 42), some (.int (0 : Int32))], [.int (M4.1 1 1), .int (0 : Int32), .ref 2], M4)) (by decide +kernel) (hO := mm_own_147) rfl ?_
    refine mm_R_call (v := mm_wi) h hA (k2 := 29) (as := [.ref 2, .int (0 : Int32), .int (M4.1 1 1)]) (r := []) rfl (fun _ => rfl) (fun q hq o ho => ms_29 rfl (by omega) hq ho) (fun r5 M6 h => ?_)
    show mm_Runs L xs (d + 1) 147 (74, [some (.ref 42), some (.int (0 : Int32))], [.int r5], M6) o
    refine mm_Runs.seq (l := [(74, .istore_n 1, 1), (75, .aload_n 0, 1)]) (S2 := (76, [some (.ref 42), some (.int r5)], [.ref 42], M6)) (by decide +kernel) (hO := mm_own_147) rfl ?_
    refine mm_R_call (v := mm_wv) h hA (k2 := 148) (as := [.ref 42]) (r := []) rfl (fun _ => rfl) (fun q hq o ho => ms_148 (by omega) hq ho) (fun _ M7 h => ?_)
    show mm_Runs L xs (d + 1) 147 (79, [some (.ref 42), some (.int r5)], [], M7) o
    refine mm_Runs.seq (l := [(79, .aload_n 0, 1)]) (S2 := (80, [some (.ref 42), some (.int r5)], [.ref 42], M7)) (by decide +kernel) (hO := mm_own_147) rfl ?_
    refine mm_R_call (v := mm_wv) h hA (k2 := 150) (as := [.ref 42]) (r := []) rfl (fun _ => rfl) (fun q hq o ho => ms_150 (by omega) hq ho) (fun _ M8 h => ?_)
    show mm_Runs L xs (d + 1) 147 (83, [some (.ref 42), some (.int r5)], [], M8) o
    refine mm_Runs.seq (l := [(83, .aload_n 0, 1), (84, .iload_n 1, 1)]) (S2 := (85, [some (.ref 42), some (.int r5)], [.int r5, .ref 42], M8)) (by decide +kernel) (hO := mm_own_147) rfl ?_
    refine mm_R_call (v := mm_wv) h hA (k2 := 155) (as := [.ref 42, .int r5]) (r := []) rfl (fun _ => rfl) (fun q hq o ho => ms_155 (by omega) hq ho) (fun _ M9 h => ?_)
    show mm_Runs L xs (d + 1) 147 (88, [some (.ref 42), some (.int r5)], [], M9) o
    exact (ms_147_j88 hd h hA : mp_147_88 L xs (d + 1) r5 M9 o)
  · replace h := mm_iq hc h
    exact (ms_147_j88 hd h hA : mp_147_88 L xs (d + 1) (0 : Int32) M4 o)
-- 65: PlainPacks$Writer.carry()V (depth 0)
theorem mm_own_65 : mm_own 65 = 3 := rfl
def mp_65_9 (L : Nat) (xs : Nat → Int32) (d : Nat) (v1 : Int32) (v2 : Int32) (M : mm_M) (o : mm_E) : Prop := mm_Runs L xs d 65 (9, [some (.ref 5), some (.int v1), some (.int v2)], [], M) o
def mp_65_59 (L : Nat) (xs : Nat → Int32) (d : Nat) (M : mm_M) (o : mm_E) : Prop := ∀ z0 z1 z2 : Option Value, mm_Runs L xs d 65 (59, [z0, z1, z2], [], M) o
def mp_65_34 (L : Nat) (xs : Nat → Int32) (d : Nat) (v2 : Int32) (s0 : Int32) (M : mm_M) (o : mm_E) : Prop := ∀ z1 : Option Value, mm_Runs L xs d 65 (34, [some (.ref 5), z1, some (.int v2)], [.int s0], M) o
noncomputable def mf_65_j34 (v2 : Int32) (s0 : Int32) (M : mm_M) : mm_O ((Int32 × Int32) ⊕ (Unit)) := if mm_in v2 16384 then if mm_in v2 16384 then some (.inl (.inl (s0, (v2 + (-1 : Int32)))), (mm_pi M 6 v2.toNatClampNeg (((M.1 6 v2.toNatClampNeg) + (1 : Int32)) &&& (255 : Int32)))) else none else none
set_option maxRecDepth 8000 in
set_option maxHeartbeats 4000000 in
theorem ms_65_j34 {L : Nat} {xs : Nat → Int32} {d : Nat} (hd : 0 ≤ d) {v2 : Int32} {s0 : Int32} {M : mm_M} {q : (((Int32 × Int32) ⊕ (Unit)) ⊕ Nat) × mm_M} {o : mm_E} (h : mf_65_j34 v2 s0 M = some q) (hA : mm_A (mm_K2 (fun s M o => mp_65_9 L xs (d) s.1 s.2 M o) (fun r M o => mp_65_59 L xs (d) M o)) q o) : mp_65_34 L xs d v2 s0 M o := by
  unfold mf_65_j34 at h
  intro z1
  show mm_Runs L xs (d) 65 (34, [some (.ref 5), z1, some (.int v2)], [.int s0], M) o
  refine mm_Runs.seq (l := [(34, .istore_n 1, 1), (35, .aload_n 0, 1), (36, .getfield 9, 3), (39, .iload_n 2, 1), (40, .aload_n 0, 1), (41, .getfield 9, 3), (44, .iload_n 2, 1)]) (S2 := (45, [some (.ref 5), some (.int s0), some (.int v2)], [.int v2, .ref 6, .int v2, .ref 6], M)) (by decide +kernel) (hO := mm_own_65) rfl ?_
  obtain ⟨hb, h⟩ := mm_gd h
  refine mm_R_iald rfl rfl hb ?_
  refine mm_Runs.seq (l := [(46, .iconst 1, 1), (47, .iadd, 1), (48, .sipush 255, 3), (51, .iand, 1)]) (S2 := (52, [some (.ref 5), some (.int s0), some (.int v2)], [.int (((M.1 6 v2.toNatClampNeg) + (1 : Int32)) &&& (255 : Int32)), .int v2, .ref 6], M)) (by decide +kernel) (hO := mm_own_65) rfl ?_
  obtain ⟨hb, h⟩ := mm_gd h
  refine mm_R_iast rfl rfl hb ?_
  refine mm_Runs.seq (l := [(53, .iinc 2 (-1), 3), (56, .goto (-47), 3)]) (S2 := (9, [some (.ref 5), some (.int s0), some (.int (v2 + (-1 : Int32)))], [], (mm_pi M 6 v2.toNatClampNeg (((M.1 6 v2.toNatClampNeg) + (1 : Int32)) &&& (255 : Int32))))) (by decide +kernel) (hO := mm_own_65) rfl ?_
  cases h
  exact (show mp_65_9 L xs (d) s0 (v2 + (-1 : Int32)) (mm_pi M 6 v2.toNatClampNeg (((M.1 6 v2.toNatClampNeg) + (1 : Int32)) &&& (255 : Int32))) o from hA)
noncomputable def mf_65_b9 (v1 : Int32) (v2 : Int32) (M : mm_M) : mm_O ((Int32 × Int32) ⊕ (Unit)) := if v2 < 0 then (some (.inl (.inr ()), M)) else (if v1 = 0 then (some (.inl (.inr ()), M)) else (if mm_in v2 16384 then if (M.1 6 v2.toNatClampNeg) = (255 : Int32) then (mf_65_j34 v2 (1 : Int32) M) else (mf_65_j34 v2 (0 : Int32) M) else none))
noncomputable def mf_65_L9 (s : Int32 × Int32) (M : mm_M) : mm_O (Unit) := mm_L (fun s M => mf_65_b9 s.1 s.2 M) s M
set_option maxRecDepth 8000 in
set_option maxHeartbeats 4000000 in
theorem ms_65_b9 {L : Nat} {xs : Nat → Int32} {d : Nat} (hd : 0 ≤ d) {v1 : Int32} {v2 : Int32} {M : mm_M} {q : (((Int32 × Int32) ⊕ (Unit)) ⊕ Nat) × mm_M} {o : mm_E} (h : mf_65_b9 v1 v2 M = some q) (hA : mm_A (mm_K2 (fun s M o => mp_65_9 L xs (d) s.1 s.2 M o) (fun r M o => mp_65_59 L xs (d) M o)) q o) : mp_65_9 L xs d v1 v2 M o := by
  unfold mf_65_b9 at h
  show mm_Runs L xs (d) 65 (9, [some (.ref 5), some (.int v1), some (.int v2)], [], M) o
  refine mm_Runs.seq (l := [(9, .iload_n 2, 1)]) (S2 := (10, [some (.ref 5), some (.int v1), some (.int v2)], [.int v2], M)) (by decide +kernel) (hO := mm_own_65) rfl ?_
  refine mm_R_zlt (t := 59) rfl rfl rfl (fun hc => ?_) (fun hc => ?_)
  · replace h := mm_ip hc h
    cases h
    exact (show mp_65_59 L xs (d) M o from hA) (some (.ref 5)) (some (.int v1)) (some (.int v2))
  · replace h := mm_iq hc h
    refine mm_Runs.seq (l := [(13, .iload_n 1, 1)]) (S2 := (14, [some (.ref 5), some (.int v1), some (.int v2)], [.int v1], M)) (by decide +kernel) (hO := mm_own_65) rfl ?_
    refine mm_R_zeq (t := 59) rfl rfl rfl (fun hc => ?_) (fun hc => ?_)
    · replace h := mm_ip hc h
      cases h
      exact (show mp_65_59 L xs (d) M o from hA) (some (.ref 5)) (some (.int v1)) (some (.int v2))
    · replace h := mm_iq hc h
      refine mm_Runs.seq (l := [(17, .aload_n 0, 1), (18, .getfield 9, 3), (21, .iload_n 2, 1)]) (S2 := (22, [some (.ref 5), some (.int v1), some (.int v2)], [.int v2, .ref 6], M)) (by decide +kernel) (hO := mm_own_65) rfl ?_
      obtain ⟨hb, h⟩ := mm_gd h
      refine mm_R_iald rfl rfl hb ?_
      refine mm_Runs.seq (l := [(23, .sipush 255, 3)]) (S2 := (26, [some (.ref 5), some (.int v1), some (.int v2)], [.int (255 : Int32), .int (M.1 6 v2.toNatClampNeg)], M)) (by decide +kernel) (hO := mm_own_65) rfl ?_
      refine mm_R_ine (t := 33) rfl rfl rfl (fun hc => ?_) (fun hc => ?_)
      · replace h := mm_ip hc h
        refine mm_Runs.seq (l := [(29, .iconst 1, 1), (30, .goto 4, 3)]) (S2 := (34, [some (.ref 5), some (.int v1), some (.int v2)], [.int (1 : Int32)], M)) (by decide +kernel) (hO := mm_own_65) rfl ?_
        exact (ms_65_j34 hd h hA : mp_65_34 L xs (d) v2 (1 : Int32) M o) (some (.int v1))
      · replace h := mm_iq hc h
        refine mm_Runs.seq (l := [(33, .iconst 0, 1)]) (S2 := (34, [some (.ref 5), some (.int v1), some (.int v2)], [.int (0 : Int32)], M)) (by decide +kernel) (hO := mm_own_65) rfl ?_
        exact (ms_65_j34 hd h hA : mp_65_34 L xs (d) v2 (0 : Int32) M o) (some (.int v1))
theorem ms_65_L9 {L : Nat} {xs : Nat → Int32} {d : Nat} (hd : 0 ≤ d) {v1 : Int32} {v2 : Int32} {β : Type} {K : β → mm_M → mm_E → Prop} {F : (Unit) → mm_M → mm_O β} {M : mm_M} {q : (β ⊕ Nat) × mm_M} {o : mm_E} (h : mm_B (mf_65_L9 (v1, v2) M) F = some q) (hA : mm_A K q o) (hx : ∀ (r : (Unit)) (M2 : mm_M), F r M2 = some q → (fun r M o => mp_65_59 L xs (d) M o) r M2 o) : mp_65_9 L xs d v1 v2 M o := mm_R_loop (s := (v1, v2)) (M := M) (P := (fun s M o => mp_65_9 L xs (d) s.1 s.2 M o)) (X := (fun r M o => mp_65_59 L xs (d) M o)) h hA (fun s M q hq hA => ms_65_b9 hd hq hA) hx
noncomputable def mf_65 (M : mm_M) : mm_O Unit := mm_B (mf_65_L9 ((1 : Int32), ((M.1 5 1) - (1 : Int32))) M) (fun r2 M1 => some (.inl (), M1))
set_option maxRecDepth 8000 in
set_option maxHeartbeats 4000000 in
theorem ms_65 {L : Nat} {xs : Nat → Int32} {d : Nat} (hd : 0 ≤ d) {M : mm_M} {q : (Unit ⊕ Nat) × mm_M} {o : mm_E} (h : mf_65 M = some q) (hA : mm_A (mm_Kr mm_wv) q o) : mm_Runs L xs d 65 (0, mm_ent (mm_ml 65) [.ref 5], [], M) o := by
  unfold mf_65 at h
  show mm_Runs L xs (d) 65 (0, [some (.ref 5), none, none], [], M) o
  refine mm_Runs.seq (l := [(0, .iconst 1, 1), (1, .istore_n 1, 1), (2, .aload_n 0, 1), (3, .getfield 26, 3), (6, .iconst 1, 1), (7, .isub, 1), (8, .istore_n 2, 1)]) (S2 := (9, [some (.ref 5), some (.int (1 : Int32)), some (.int ((M.1 5 1) - (1 : Int32)))], [], M)) (by decide +kernel) (hO := mm_own_65) rfl ?_
  have hp : mp_65_9 L xs (d) (1 : Int32) ((M.1 5 1) - (1 : Int32)) M o := by
    refine ms_65_L9 hd h hA (fun r2 M1 h => ?_)
    intro y3 y4 y5
    show mm_Runs L xs (d) 65 (59, [y3, y4, y5], [], M1) o
    cases h
    exact mm_R_retv rfl rfl hA
  exact hp
-- 172: PlainPacks$Chances.writeBit(II)V (depth 1)
theorem mm_own_172 : mm_own 172 = 11 := rfl
def mp_172_113 (L : Nat) (xs : Nat → Int32) (d : Nat) (M : mm_M) (o : mm_E) : Prop := ∀ z1 z2 z3 z4 z5 : Option Value, mm_Runs L xs d 172 (113, [some (.ref 80), z1, z2, z3, z4, z5], [], M) o
noncomputable def mf_172_j113 (M : mm_M) : mm_O Unit := if (M.2.1 80 4) < (16777216 : Int64) then (mm_B (mf_57 (mm_lush (M.2.1 80 15) (24 : Int32)).toInt32 (mm_pl M 80 4 ((M.2.1 80 4) * (256 : Int64)))) (fun _ M1 => some (.inl (), (mm_pl M1 80 15 (((M1.2.1 80 15) * (256 : Int64)) &&& (4294967295 : Int64)))))) else (some (.inl (), M))
set_option maxRecDepth 8000 in
set_option maxHeartbeats 4000000 in
theorem ms_172_j113 {L : Nat} {xs : Nat → Int32} {d : Nat} (hd : 1 ≤ d) {M : mm_M} {q : (Unit ⊕ Nat) × mm_M} {o : mm_E} (h : mf_172_j113 M = some q) (hA : mm_A (mm_Kr mm_wv) q o) : mp_172_113 L xs d M o := by
  unfold mf_172_j113 at h
  obtain ⟨d, rfl⟩ := mm_d1 (n := 0) hd
  intro z1 z2 z3 z4 z5
  show mm_Runs L xs (d + 1) 172 (113, [some (.ref 80), z1, z2, z3, z4, z5], [], M) o
  refine mm_Runs.seq (l := [(113, .aload_n 0, 1), (114, .getfield 35, 3), (117, .ldc2_w 119, 3)]) (S2 := (120, [some (.ref 80), z1, z2, z3, z4, z5], [.long (16777216 : Int64), .long (M.2.1 80 4)], M)) (by decide +kernel) (hO := mm_own_172) rfl ?_
  refine mm_R_lge (t := 167) rfl rfl rfl rfl (fun hc => ?_) (fun hc => ?_)
  · replace h := mm_ip hc h
    refine mm_Runs.seq (l := [(124, .aload_n 0, 1), (125, .dup, 1), (126, .getfield 35, 3), (129, .ldc2_w 121, 3), (132, .lmul, 1), (133, .putfield 35, 3), (136, .aload_n 0, 1), (137, .getfield 23, 3), (140, .aload_n 0, 1), (141, .getfield 172, 3), (144, .bipush 24, 2), (146, .lushr, 1), (147, .l2i, 1)]) (S2 := (148, [some (.ref 80), z1, z2, z3, z4, z5], [.int (mm_lush (M.2.1 80 15) (24 : Int32)).toInt32, .ref 5], (mm_pl M 80 4 ((M.2.1 80 4) * (256 : Int64))))) (by decide +kernel) (hO := mm_own_172) rfl ?_
    refine mm_R_call (v := mm_wv) h hA (k2 := 57) (as := [.ref 5, .int (mm_lush (M.2.1 80 15) (24 : Int32)).toInt32]) (r := []) rfl (fun _ => rfl) (fun q hq o ho => ms_57 (by omega) hq ho) (fun _ M1 h => ?_)
    show mm_Runs L xs (d + 1) 172 (151, [some (.ref 80), z1, z2, z3, z4, z5], [], M1) o
    refine mm_Runs.seq (l := [(151, .aload_n 0, 1), (152, .aload_n 0, 1), (153, .getfield 172, 3), (156, .ldc2_w 121, 3), (159, .lmul, 1), (160, .ldc2_w 33, 3), (163, .land, 1), (164, .putfield 172, 3)]) (S2 := (167, [some (.ref 80), z1, z2, z3, z4, z5], [], (mm_pl M1 80 15 (((M1.2.1 80 15) * (256 : Int64)) &&& (4294967295 : Int64))))) (by decide +kernel) (hO := mm_own_172) rfl ?_
    cases h
    exact mm_R_retv rfl rfl hA
  · replace h := mm_iq hc h
    cases h
    exact mm_R_retv rfl rfl hA
noncomputable def mf_172 (v1 : Int32) (v2 : Int32) (M : mm_M) : mm_O Unit := if mm_in v1 14340 then if v2 = 0 then (if mm_in v1 14340 then mf_172_j113 (mm_pi (mm_pl M 80 4 (((M.2.1 80 4) / (2048 : Int64)) * (M.1 81 v1.toNatClampNeg).toInt64)) 81 v1.toNatClampNeg ((M.1 81 v1.toNatClampNeg) + (((2048 : Int32) - (M.1 81 v1.toNatClampNeg)) / (32 : Int32)))) else none) else (if mm_in v1 14340 then if (4294967295 : Int64) < ((M.2.1 80 15) + (((M.2.1 80 4) / (2048 : Int64)) * (M.1 81 v1.toNatClampNeg).toInt64)) then (mm_B (mf_65 (mm_pl (mm_pl (mm_pi (mm_pl M 80 4 ((M.2.1 80 4) - (((M.2.1 80 4) / (2048 : Int64)) * (M.1 81 v1.toNatClampNeg).toInt64))) 81 v1.toNatClampNeg ((M.1 81 v1.toNatClampNeg) - ((M.1 81 v1.toNatClampNeg) / (32 : Int32)))) 80 15 ((M.2.1 80 15) + (((M.2.1 80 4) / (2048 : Int64)) * (M.1 81 v1.toNatClampNeg).toInt64))) 80 15 (((M.2.1 80 15) + (((M.2.1 80 4) / (2048 : Int64)) * (M.1 81 v1.toNatClampNeg).toInt64)) &&& (4294967295 : Int64)))) (fun _ M1 => mf_172_j113 M1)) else (mf_172_j113 (mm_pl (mm_pi (mm_pl M 80 4 ((M.2.1 80 4) - (((M.2.1 80 4) / (2048 : Int64)) * (M.1 81 v1.toNatClampNeg).toInt64))) 81 v1.toNatClampNeg ((M.1 81 v1.toNatClampNeg) - ((M.1 81 v1.toNatClampNeg) / (32 : Int32)))) 80 15 ((M.2.1 80 15) + (((M.2.1 80 4) / (2048 : Int64)) * (M.1 81 v1.toNatClampNeg).toInt64)))) else none) else none
set_option maxRecDepth 8000 in
set_option maxHeartbeats 4000000 in
theorem ms_172 {L : Nat} {xs : Nat → Int32} {d : Nat} (hd : 1 ≤ d) {v1 : Int32} {v2 : Int32} {M : mm_M} {q : (Unit ⊕ Nat) × mm_M} {o : mm_E} (h : mf_172 v1 v2 M = some q) (hA : mm_A (mm_Kr mm_wv) q o) : mm_Runs L xs d 172 (0, mm_ent (mm_ml 172) [.ref 80, .int v1, .int v2], [], M) o := by
  unfold mf_172 at h
  obtain ⟨d, rfl⟩ := mm_d1 (n := 0) hd
  show mm_Runs L xs (d + 1) 172 (0, [some (.ref 80), some (.int v1), some (.int v2), none, none, none], [], M) o
  refine mm_Runs.seq (l := [(0, .aload_n 0, 1), (1, .getfield 11, 3), (4, .iload_n 1, 1)]) (S2 := (5, [some (.ref 80), some (.int v1), some (.int v2), none, none, none], [.int v1, .ref 81], M)) (by decide +kernel) (hO := mm_own_172) rfl ?_
  obtain ⟨hb, h⟩ := mm_gd h
  refine mm_R_iald rfl rfl hb ?_
  refine mm_Runs.seq (l := [(6, .istore_n 3, 1), (7, .aload_n 0, 1), (8, .getfield 35, 3), (11, .ldc2_w 117, 3), (14, .ldiv, 1), (15, .iload_n 3, 1), (16, .i2l, 1), (17, .lmul, 1), (18, .lstore 4, 2), (20, .iload_n 2, 1)]) (S2 := (21, [some (.ref 80), some (.int v1), some (.int v2), some (.int (M.1 81 v1.toNatClampNeg)), some (.long (((M.2.1 80 4) / (2048 : Int64)) * (M.1 81 v1.toNatClampNeg).toInt64)), none], [.int v2], M)) (by decide +kernel) (hO := mm_own_172) rfl ?_
  refine mm_R_zne (t := 49) rfl rfl rfl (fun hc => ?_) (fun hc => ?_)
  · replace h := mm_ip hc h
    refine mm_Runs.seq (l := [(24, .aload_n 0, 1), (25, .lload 4, 2), (27, .putfield 35, 3), (30, .aload_n 0, 1), (31, .getfield 11, 3), (34, .iload_n 1, 1), (35, .iload_n 3, 1), (36, .sipush 2048, 3), (39, .iload_n 3, 1), (40, .isub, 1), (41, .bipush 32, 2), (43, .idiv, 1), (44, .iadd, 1)]) (S2 := (45, [some (.ref 80), some (.int v1), some (.int v2), some (.int (M.1 81 v1.toNatClampNeg)), some (.long (((M.2.1 80 4) / (2048 : Int64)) * (M.1 81 v1.toNatClampNeg).toInt64)), none], [.int ((M.1 81 v1.toNatClampNeg) + (((2048 : Int32) - (M.1 81 v1.toNatClampNeg)) / (32 : Int32))), .int v1, .ref 81], (mm_pl M 80 4 (((M.2.1 80 4) / (2048 : Int64)) * (M.1 81 v1.toNatClampNeg).toInt64)))) (by decide +kernel) (hO := mm_own_172) rfl ?_
    obtain ⟨hb, h⟩ := mm_gd h
    refine mm_R_iast rfl rfl hb ?_
    refine mm_Runs.seq (l := [(46, .goto 67, 3)]) (S2 := (113, [some (.ref 80), some (.int v1), some (.int v2), some (.int (M.1 81 v1.toNatClampNeg)), some (.long (((M.2.1 80 4) / (2048 : Int64)) * (M.1 81 v1.toNatClampNeg).toInt64)), none], [], (mm_pi (mm_pl M 80 4 (((M.2.1 80 4) / (2048 : Int64)) * (M.1 81 v1.toNatClampNeg).toInt64)) 81 v1.toNatClampNeg ((M.1 81 v1.toNatClampNeg) + (((2048 : Int32) - (M.1 81 v1.toNatClampNeg)) / (32 : Int32)))))) (by decide +kernel) (hO := mm_own_172) rfl ?_
    exact (ms_172_j113 hd h hA : mp_172_113 L xs (d + 1) (mm_pi (mm_pl M 80 4 (((M.2.1 80 4) / (2048 : Int64)) * (M.1 81 v1.toNatClampNeg).toInt64)) 81 v1.toNatClampNeg ((M.1 81 v1.toNatClampNeg) + (((2048 : Int32) - (M.1 81 v1.toNatClampNeg)) / (32 : Int32)))) o) (some (.int v1)) (some (.int v2)) (some (.int (M.1 81 v1.toNatClampNeg))) (some (.long (((M.2.1 80 4) / (2048 : Int64)) * (M.1 81 v1.toNatClampNeg).toInt64))) none
  · replace h := mm_iq hc h
    refine mm_Runs.seq (l := [(49, .aload_n 0, 1), (50, .dup, 1), (51, .getfield 35, 3), (54, .lload 4, 2), (56, .lsub, 1), (57, .putfield 35, 3), (60, .aload_n 0, 1), (61, .getfield 11, 3), (64, .iload_n 1, 1), (65, .iload_n 3, 1), (66, .iload_n 3, 1), (67, .bipush 32, 2), (69, .idiv, 1), (70, .isub, 1)]) (S2 := (71, [some (.ref 80), some (.int v1), some (.int v2), some (.int (M.1 81 v1.toNatClampNeg)), some (.long (((M.2.1 80 4) / (2048 : Int64)) * (M.1 81 v1.toNatClampNeg).toInt64)), none], [.int ((M.1 81 v1.toNatClampNeg) - ((M.1 81 v1.toNatClampNeg) / (32 : Int32))), .int v1, .ref 81], (mm_pl M 80 4 ((M.2.1 80 4) - (((M.2.1 80 4) / (2048 : Int64)) * (M.1 81 v1.toNatClampNeg).toInt64))))) (by decide +kernel) (hO := mm_own_172) rfl ?_
    obtain ⟨hb, h⟩ := mm_gd h
    refine mm_R_iast rfl rfl hb ?_
    refine mm_Runs.seq (l := [(72, .aload_n 0, 1), (73, .dup, 1), (74, .getfield 172, 3), (77, .lload 4, 2), (79, .ladd, 1), (80, .putfield 172, 3), (83, .aload_n 0, 1), (84, .getfield 172, 3), (87, .ldc2_w 33, 3)]) (S2 := (90, [some (.ref 80), some (.int v1), some (.int v2), some (.int (M.1 81 v1.toNatClampNeg)), some (.long (((M.2.1 80 4) / (2048 : Int64)) * (M.1 81 v1.toNatClampNeg).toInt64)), none], [.long (4294967295 : Int64), .long ((M.2.1 80 15) + (((M.2.1 80 4) / (2048 : Int64)) * (M.1 81 v1.toNatClampNeg).toInt64))], (mm_pl (mm_pi (mm_pl M 80 4 ((M.2.1 80 4) - (((M.2.1 80 4) / (2048 : Int64)) * (M.1 81 v1.toNatClampNeg).toInt64))) 81 v1.toNatClampNeg ((M.1 81 v1.toNatClampNeg) - ((M.1 81 v1.toNatClampNeg) / (32 : Int32)))) 80 15 ((M.2.1 80 15) + (((M.2.1 80 4) / (2048 : Int64)) * (M.1 81 v1.toNatClampNeg).toInt64))))) (by decide +kernel) (hO := mm_own_172) rfl ?_
    refine mm_R_lle (t := 113) rfl rfl rfl rfl (fun hc => ?_) (fun hc => ?_)
    · replace h := mm_ip hc h
      refine mm_Runs.seq (l := [(94, .aload_n 0, 1), (95, .dup, 1), (96, .getfield 172, 3), (99, .ldc2_w 33, 3), (102, .land, 1), (103, .putfield 172, 3), (106, .aload_n 0, 1), (107, .getfield 23, 3)]) (S2 := (110, [some (.ref 80), some (.int v1), some (.int v2), some (.int (M.1 81 v1.toNatClampNeg)), some (.long (((M.2.1 80 4) / (2048 : Int64)) * (M.1 81 v1.toNatClampNeg).toInt64)), none], [.ref 5], (mm_pl (mm_pl (mm_pi (mm_pl M 80 4 ((M.2.1 80 4) - (((M.2.1 80 4) / (2048 : Int64)) * (M.1 81 v1.toNatClampNeg).toInt64))) 81 v1.toNatClampNeg ((M.1 81 v1.toNatClampNeg) - ((M.1 81 v1.toNatClampNeg) / (32 : Int32)))) 80 15 ((M.2.1 80 15) + (((M.2.1 80 4) / (2048 : Int64)) * (M.1 81 v1.toNatClampNeg).toInt64))) 80 15 (((M.2.1 80 15) + (((M.2.1 80 4) / (2048 : Int64)) * (M.1 81 v1.toNatClampNeg).toInt64)) &&& (4294967295 : Int64))))) (by decide +kernel) (hO := mm_own_172) rfl ?_
      refine mm_R_call (v := mm_wv) h hA (k2 := 65) (as := [.ref 5]) (r := []) rfl (fun _ => rfl) (fun q hq o ho => ms_65 (by omega) hq ho) (fun _ M1 h => ?_)
      show mm_Runs L xs (d + 1) 172 (113, [some (.ref 80), some (.int v1), some (.int v2), some (.int (M.1 81 v1.toNatClampNeg)), some (.long (((M.2.1 80 4) / (2048 : Int64)) * (M.1 81 v1.toNatClampNeg).toInt64)), none], [], M1) o
      exact (ms_172_j113 hd h hA : mp_172_113 L xs (d + 1) M1 o) (some (.int v1)) (some (.int v2)) (some (.int (M.1 81 v1.toNatClampNeg))) (some (.long (((M.2.1 80 4) / (2048 : Int64)) * (M.1 81 v1.toNatClampNeg).toInt64))) none
    · replace h := mm_iq hc h
      exact (ms_172_j113 hd h hA : mp_172_113 L xs (d + 1) (mm_pl (mm_pi (mm_pl M 80 4 ((M.2.1 80 4) - (((M.2.1 80 4) / (2048 : Int64)) * (M.1 81 v1.toNatClampNeg).toInt64))) 81 v1.toNatClampNeg ((M.1 81 v1.toNatClampNeg) - ((M.1 81 v1.toNatClampNeg) / (32 : Int32)))) 80 15 ((M.2.1 80 15) + (((M.2.1 80 4) / (2048 : Int64)) * (M.1 81 v1.toNatClampNeg).toInt64))) o) (some (.int v1)) (some (.int v2)) (some (.int (M.1 81 v1.toNatClampNeg))) (some (.long (((M.2.1 80 4) / (2048 : Int64)) * (M.1 81 v1.toNatClampNeg).toInt64))) none
-- 171: PlainPacks$Chances.writeChances()V (depth 2)
theorem mm_own_171 : mm_own 171 = 11 := rfl
def mp_171_58 (L : Nat) (xs : Nat → Int32) (d : Nat) (v1 : Int32) (v2 : Int32) (M : mm_M) (o : mm_E) : Prop := ∀ z3 z4 z5 z6 : Option Value, mm_Runs L xs d 171 (58, [some (.ref 80), some (.int v1), some (.int v2), z3, z4, z5, z6], [], M) o
def mp_171_152 (L : Nat) (xs : Nat → Int32) (d : Nat) (M : mm_M) (o : mm_E) : Prop := ∀ z1 z2 z3 z4 z5 z6 : Option Value, mm_Runs L xs d 171 (152, [some (.ref 80), z1, z2, z3, z4, z5, z6], [], M) o
def mp_171_108 (L : Nat) (xs : Nat → Int32) (d : Nat) (v1 : Int32) (v2 : Int32) (v3 : Int32) (v4 : Int32) (v5 : Int32) (M : mm_M) (o : mm_E) : Prop := ∀ z6 : Option Value, mm_Runs L xs d 171 (108, [some (.ref 80), some (.int v1), some (.int v2), some (.int v3), some (.int v4), some (.int v5), z6], [], M) o
def mp_171_146 (L : Nat) (xs : Nat → Int32) (d : Nat) (v1 : Int32) (v2 : Int32) (M : mm_M) (o : mm_E) : Prop := ∀ z3 z4 z5 z6 : Option Value, mm_Runs L xs d 171 (146, [some (.ref 80), some (.int v1), some (.int v2), z3, z4, z5, z6], [], M) o
noncomputable def mf_171_b108 (v1 : Int32) (v2 : Int32) (v3 : Int32) (v4 : Int32) (v5 : Int32) (M : mm_M) : mm_O ((Int32 × Int32) ⊕ (Unit)) := if v5 < 0 then (some (.inl (.inr ()), M)) else (mm_B (mf_172 (v3 + v4) ((mm_shr v1 v5) &&& (1 : Int32)) M) (fun _ M1 => some (.inl (.inl ((((2 : Int32) * v4) + ((mm_shr v1 v5) &&& (1 : Int32))), (v5 + (-1 : Int32)))), M1)))
noncomputable def mf_171_L108 (v1 : Int32) (v2 : Int32) (v3 : Int32) (s : Int32 × Int32) (M : mm_M) : mm_O (Unit) := mm_L (fun s M => mf_171_b108 v1 v2 v3 s.1 s.2 M) s M
set_option maxRecDepth 8000 in
set_option maxHeartbeats 4000000 in
theorem ms_171_b108 {L : Nat} {xs : Nat → Int32} {d : Nat} (hd : 2 ≤ d) {v1 : Int32} {v2 : Int32} {v3 : Int32} {v4 : Int32} {v5 : Int32} {M : mm_M} {q : (((Int32 × Int32) ⊕ (Unit)) ⊕ Nat) × mm_M} {o : mm_E} (h : mf_171_b108 v1 v2 v3 v4 v5 M = some q) (hA : mm_A (mm_K2 (fun s M o => mp_171_108 L xs (d) v1 v2 v3 s.1 s.2 M o) (fun r M o => mp_171_146 L xs (d) v1 v2 M o)) q o) : mp_171_108 L xs d v1 v2 v3 v4 v5 M o := by
  unfold mf_171_b108 at h
  obtain ⟨d, rfl⟩ := mm_d1 (n := 1) hd
  intro z6
  show mm_Runs L xs (d + 1) 171 (108, [some (.ref 80), some (.int v1), some (.int v2), some (.int v3), some (.int v4), some (.int v5), z6], [], M) o
  refine mm_Runs.seq (l := [(108, .iload 5, 2)]) (S2 := (110, [some (.ref 80), some (.int v1), some (.int v2), some (.int v3), some (.int v4), some (.int v5), z6], [.int v5], M)) (by decide +kernel) (hO := mm_own_171) rfl ?_
  refine mm_R_zlt (t := 146) rfl rfl rfl (fun hc => ?_) (fun hc => ?_)
  · replace h := mm_ip hc h
    cases h
    exact (show mp_171_146 L xs (d + 1) v1 v2 M o from hA) (some (.int v3)) (some (.int v4)) (some (.int v5)) z6
  · replace h := mm_iq hc h
    refine mm_Runs.seq (l := [(113, .iload_n 1, 1), (114, .iload 5, 2), (116, .ishr, 1), (117, .iconst 1, 1), (118, .iand, 1), (119, .istore 6, 2), (121, .aload_n 0, 1), (122, .iload_n 3, 1), (123, .iload 4, 2), (125, .iadd, 1), (126, .iload 6, 2)]) (S2 := (128, [some (.ref 80), some (.int v1), some (.int v2), some (.int v3), some (.int v4), some (.int v5), some (.int ((mm_shr v1 v5) &&& (1 : Int32)))], [.int ((mm_shr v1 v5) &&& (1 : Int32)), .int (v3 + v4), .ref 80], M)) (by decide +kernel) (hO := mm_own_171) rfl ?_
    refine mm_R_call (v := mm_wv) h hA (k2 := 172) (as := [.ref 80, .int (v3 + v4), .int ((mm_shr v1 v5) &&& (1 : Int32))]) (r := []) rfl (fun _ => rfl) (fun q hq o ho => ms_172 (by omega) hq ho) (fun _ M1 h => ?_)
    show mm_Runs L xs (d + 1) 171 (131, [some (.ref 80), some (.int v1), some (.int v2), some (.int v3), some (.int v4), some (.int v5), some (.int ((mm_shr v1 v5) &&& (1 : Int32)))], [], M1) o
    refine mm_Runs.seq (l := [(131, .iconst 2, 1), (132, .iload 4, 2), (134, .imul, 1), (135, .iload 6, 2), (137, .iadd, 1), (138, .istore 4, 2), (140, .iinc 5 (-1), 3), (143, .goto (-35), 3)]) (S2 := (108, [some (.ref 80), some (.int v1), some (.int v2), some (.int v3), some (.int (((2 : Int32) * v4) + ((mm_shr v1 v5) &&& (1 : Int32)))), some (.int (v5 + (-1 : Int32))), some (.int ((mm_shr v1 v5) &&& (1 : Int32)))], [], M1)) (by decide +kernel) (hO := mm_own_171) rfl ?_
    cases h
    exact (show mp_171_108 L xs (d + 1) v1 v2 v3 (((2 : Int32) * v4) + ((mm_shr v1 v5) &&& (1 : Int32))) (v5 + (-1 : Int32)) M1 o from hA) (some (.int ((mm_shr v1 v5) &&& (1 : Int32))))
theorem ms_171_L108 {L : Nat} {xs : Nat → Int32} {d : Nat} (hd : 2 ≤ d) {v1 : Int32} {v2 : Int32} {v3 : Int32} {v4 : Int32} {v5 : Int32} {β : Type} {K : β → mm_M → mm_E → Prop} {F : (Unit) → mm_M → mm_O β} {M : mm_M} {q : (β ⊕ Nat) × mm_M} {o : mm_E} (h : mm_B (mf_171_L108 v1 v2 v3 (v4, v5) M) F = some q) (hA : mm_A K q o) (hx : ∀ (r : (Unit)) (M2 : mm_M), F r M2 = some q → (fun r M o => mp_171_146 L xs (d) v1 v2 M o) r M2 o) : mp_171_108 L xs d v1 v2 v3 v4 v5 M o := mm_R_loop (s := (v4, v5)) (M := M) (P := (fun s M o => mp_171_108 L xs (d) v1 v2 v3 s.1 s.2 M o)) (X := (fun r M o => mp_171_146 L xs (d) v1 v2 M o)) h hA (fun s M q hq hA => ms_171_b108 hd hq hA) hx
noncomputable def mf_171_b58 (v1 : Int32) (v2 : Int32) (M : mm_M) : mm_O ((Int32 × Int32) ⊕ (Unit)) := if v2 < (M.1 1 1) then (mm_B (mf_172 ((0 : Int32) + (mm_rem v2 (4 : Int32))) (0 : Int32) M) (fun _ M1 => if mm_in v2 10000 then mm_B (mf_171_L108 (M1.1 2 v2.toNatClampNeg) v2 ((2052 : Int32) + ((768 : Int32) * (mm_shr v1 (5 : Int32)))) ((1 : Int32), (7 : Int32)) M1) (fun r3 M2 => some (.inl (.inl ((M1.1 2 v2.toNatClampNeg), (v2 + (1 : Int32)))), M2)) else none)) else (some (.inl (.inr ()), M))
noncomputable def mf_171_L58 (s : Int32 × Int32) (M : mm_M) : mm_O (Unit) := mm_L (fun s M => mf_171_b58 s.1 s.2 M) s M
set_option maxRecDepth 8000 in
set_option maxHeartbeats 4000000 in
theorem ms_171_b58 {L : Nat} {xs : Nat → Int32} {d : Nat} (hd : 2 ≤ d) {v1 : Int32} {v2 : Int32} {M : mm_M} {q : (((Int32 × Int32) ⊕ (Unit)) ⊕ Nat) × mm_M} {o : mm_E} (h : mf_171_b58 v1 v2 M = some q) (hA : mm_A (mm_K2 (fun s M o => mp_171_58 L xs (d) s.1 s.2 M o) (fun r M o => mp_171_152 L xs (d) M o)) q o) : mp_171_58 L xs d v1 v2 M o := by
  unfold mf_171_b58 at h
  obtain ⟨d, rfl⟩ := mm_d1 (n := 1) hd
  intro z3 z4 z5 z6
  show mm_Runs L xs (d + 1) 171 (58, [some (.ref 80), some (.int v1), some (.int v2), z3, z4, z5, z6], [], M) o
  refine mm_Runs.seq (l := [(58, .iload_n 2, 1), (59, .aload_n 0, 1), (60, .getfield 15, 3), (63, .getfield 171, 3)]) (S2 := (66, [some (.ref 80), some (.int v1), some (.int v2), z3, z4, z5, z6], [.int (M.1 1 1), .int v2], M)) (by decide +kernel) (hO := mm_own_171) rfl ?_
  refine mm_R_ige (t := 152) rfl rfl rfl (fun hc => ?_) (fun hc => ?_)
  · replace h := mm_ip hc h
    refine mm_Runs.seq (l := [(69, .aload_n 0, 1), (70, .iconst 0, 1), (71, .iload_n 2, 1), (72, .iconst 4, 1), (73, .irem, 1), (74, .iadd, 1), (75, .iconst 0, 1)]) (S2 := (76, [some (.ref 80), some (.int v1), some (.int v2), z3, z4, z5, z6], [.int (0 : Int32), .int ((0 : Int32) + (mm_rem v2 (4 : Int32))), .ref 80], M)) (by decide +kernel) (hO := mm_own_171) rfl ?_
    refine mm_R_call (v := mm_wv) h hA (k2 := 172) (as := [.ref 80, .int ((0 : Int32) + (mm_rem v2 (4 : Int32))), .int (0 : Int32)]) (r := []) rfl (fun _ => rfl) (fun q hq o ho => ms_172 (by omega) hq ho) (fun _ M1 h => ?_)
    show mm_Runs L xs (d + 1) 171 (79, [some (.ref 80), some (.int v1), some (.int v2), z3, z4, z5, z6], [], M1) o
    refine mm_Runs.seq (l := [(79, .sipush 2052, 3), (82, .sipush 768, 3), (85, .iload_n 1, 1), (86, .iconst 5, 1), (87, .ishr, 1), (88, .imul, 1), (89, .iadd, 1), (90, .istore_n 3, 1), (91, .aload_n 0, 1), (92, .getfield 15, 3), (95, .getfield 178, 3), (98, .iload_n 2, 1)]) (S2 := (99, [some (.ref 80), some (.int v1), some (.int v2), some (.int ((2052 : Int32) + ((768 : Int32) * (mm_shr v1 (5 : Int32))))), z4, z5, z6], [.int v2, .ref 2], M1)) (by decide +kernel) (hO := mm_own_171) rfl ?_
    obtain ⟨hb, h⟩ := mm_gd h
    refine mm_R_iald rfl rfl hb ?_
    refine mm_Runs.seq (l := [(100, .istore_n 1, 1), (101, .iconst 1, 1), (102, .istore 4, 2), (104, .bipush 7, 2), (106, .istore 5, 2)]) (S2 := (108, [some (.ref 80), some (.int (M1.1 2 v2.toNatClampNeg)), some (.int v2), some (.int ((2052 : Int32) + ((768 : Int32) * (mm_shr v1 (5 : Int32))))), some (.int (1 : Int32)), some (.int (7 : Int32)), z6], [], M1)) (by decide +kernel) (hO := mm_own_171) rfl ?_
    have hp : mp_171_108 L xs (d + 1) (M1.1 2 v2.toNatClampNeg) v2 ((2052 : Int32) + ((768 : Int32) * (mm_shr v1 (5 : Int32)))) (1 : Int32) (7 : Int32) M1 o := by
      refine ms_171_L108 hd h hA (fun r3 M2 h => ?_)
      intro y4 y5 y6 y7
      show mm_Runs L xs (d + 1) 171 (146, [some (.ref 80), some (.int (M1.1 2 v2.toNatClampNeg)), some (.int v2), y4, y5, y6, y7], [], M2) o
      refine mm_Runs.seq (l := [(146, .iinc 2 1, 3), (149, .goto (-91), 3)]) (S2 := (58, [some (.ref 80), some (.int (M1.1 2 v2.toNatClampNeg)), some (.int (v2 + (1 : Int32))), y4, y5, y6, y7], [], M2)) (by decide +kernel) (hO := mm_own_171) rfl ?_
      cases h
      exact (show mp_171_58 L xs (d + 1) (M1.1 2 v2.toNatClampNeg) (v2 + (1 : Int32)) M2 o from hA) y4 y5 y6 y7
    exact hp z6
  · replace h := mm_iq hc h
    cases h
    exact (show mp_171_152 L xs (d + 1) M o from hA) (some (.int v1)) (some (.int v2)) z3 z4 z5 z6
theorem ms_171_L58 {L : Nat} {xs : Nat → Int32} {d : Nat} (hd : 2 ≤ d) {v1 : Int32} {v2 : Int32} {β : Type} {K : β → mm_M → mm_E → Prop} {F : (Unit) → mm_M → mm_O β} {M : mm_M} {q : (β ⊕ Nat) × mm_M} {o : mm_E} (h : mm_B (mf_171_L58 (v1, v2) M) F = some q) (hA : mm_A K q o) (hx : ∀ (r : (Unit)) (M2 : mm_M), F r M2 = some q → (fun r M o => mp_171_152 L xs (d) M o) r M2 o) : mp_171_58 L xs d v1 v2 M o := mm_R_loop (s := (v1, v2)) (M := M) (P := (fun s M o => mp_171_58 L xs (d) s.1 s.2 M o)) (X := (fun r M o => mp_171_152 L xs (d) M o)) h hA (fun s M q hq hA => ms_171_b58 hd hq hA) hx
noncomputable def mf_171_j152 (M : mm_M) : mm_O Unit := mm_B (mf_60 (M.2.1 80 15) (4 : Int32) M) (fun _ M1 => some (.inl (), M1))
set_option maxRecDepth 8000 in
set_option maxHeartbeats 4000000 in
theorem ms_171_j152 {L : Nat} {xs : Nat → Int32} {d : Nat} (hd : 2 ≤ d) {M : mm_M} {q : (Unit ⊕ Nat) × mm_M} {o : mm_E} (h : mf_171_j152 M = some q) (hA : mm_A (mm_Kr mm_wv) q o) : mp_171_152 L xs d M o := by
  unfold mf_171_j152 at h
  obtain ⟨d, rfl⟩ := mm_d1 (n := 1) hd
  intro z1 z2 z3 z4 z5 z6
  show mm_Runs L xs (d + 1) 171 (152, [some (.ref 80), z1, z2, z3, z4, z5, z6], [], M) o
  refine mm_Runs.seq (l := [(152, .aload_n 0, 1), (153, .getfield 23, 3), (156, .aload_n 0, 1), (157, .getfield 172, 3), (160, .iconst 4, 1)]) (S2 := (161, [some (.ref 80), z1, z2, z3, z4, z5, z6], [.int (4 : Int32), .long (M.2.1 80 15), .ref 5], M)) (by decide +kernel) (hO := mm_own_171) rfl ?_
  refine mm_R_call (v := mm_wv) h hA (k2 := 60) (as := [.ref 5, .long (M.2.1 80 15), .int (4 : Int32)]) (r := []) rfl (fun _ => rfl) (fun q hq o ho => ms_60 (by omega) hq ho) (fun _ M1 h => ?_)
  show mm_Runs L xs (d + 1) 171 (164, [some (.ref 80), z1, z2, z3, z4, z5, z6], [], M1) o
  cases h
  exact mm_R_retv rfl rfl hA
noncomputable def mf_171 (M : mm_M) : mm_O Unit := mm_B (mf_57 (93 : Int32) M) (fun _ M1 => mm_B (mf_59 (65536 : Int64) (4 : Int32) M1) (fun _ M2 => mm_B (mf_59 (M2.1 1 1).toInt64 (8 : Int32) M2) (fun _ M3 => mm_B (mf_57 (0 : Int32) M3) (fun _ M4 => mm_B (mf_158 M4) (fun _ M5 => mm_B (mf_171_L58 ((0 : Int32), (0 : Int32)) (mm_pl M5 80 15 (0 : Int64))) (fun r7 M6 => mf_171_j152 M6))))))
set_option maxRecDepth 8000 in
set_option maxHeartbeats 4000000 in
theorem ms_171 {L : Nat} {xs : Nat → Int32} {d : Nat} (hd : 2 ≤ d) {M : mm_M} {q : (Unit ⊕ Nat) × mm_M} {o : mm_E} (h : mf_171 M = some q) (hA : mm_A (mm_Kr mm_wv) q o) : mm_Runs L xs d 171 (0, mm_ent (mm_ml 171) [.ref 80], [], M) o := by
  unfold mf_171 at h
  obtain ⟨d, rfl⟩ := mm_d1 (n := 1) hd
  show mm_Runs L xs (d + 1) 171 (0, [some (.ref 80), none, none, none, none, none, none], [], M) o
  refine mm_Runs.seq (l := [(0, .aload_n 0, 1), (1, .getfield 23, 3), (4, .bipush 93, 2)]) (S2 := (6, [some (.ref 80), none, none, none, none, none, none], [.int (93 : Int32), .ref 5], M)) (by decide +kernel) (hO := mm_own_171) rfl ?_
  refine mm_R_call (v := mm_wv) h hA (k2 := 57) (as := [.ref 5, .int (93 : Int32)]) (r := []) rfl (fun _ => rfl) (fun q hq o ho => ms_57 (by omega) hq ho) (fun _ M1 h => ?_)
  show mm_Runs L xs (d + 1) 171 (9, [some (.ref 80), none, none, none, none, none, none], [], M1) o
  refine mm_Runs.seq (l := [(9, .aload_n 0, 1), (10, .getfield 23, 3), (13, .ldc2_w 166, 3), (16, .iconst 4, 1)]) (S2 := (17, [some (.ref 80), none, none, none, none, none, none], [.int (4 : Int32), .long (65536 : Int64), .ref 5], M1)) (by decide +kernel) (hO := mm_own_171) rfl ?_
  refine mm_R_call (v := mm_wv) h hA (k2 := 59) (as := [.ref 5, .long (65536 : Int64), .int (4 : Int32)]) (r := []) rfl (fun _ => rfl) (fun q hq o ho => ms_59 (by omega) hq ho) (fun _ M2 h => ?_)
  show mm_Runs L xs (d + 1) 171 (20, [some (.ref 80), none, none, none, none, none, none], [], M2) o
  refine mm_Runs.seq (l := [(20, .aload_n 0, 1), (21, .getfield 23, 3), (24, .aload_n 0, 1), (25, .getfield 15, 3), (28, .getfield 171, 3), (31, .i2l, 1), (32, .bipush 8, 2)]) (S2 := (34, [some (.ref 80), none, none, none, none, none, none], [.int (8 : Int32), .long (M2.1 1 1).toInt64, .ref 5], M2)) (by decide +kernel) (hO := mm_own_171) rfl ?_
  refine mm_R_call (v := mm_wv) h hA (k2 := 59) (as := [.ref 5, .long (M2.1 1 1).toInt64, .int (8 : Int32)]) (r := []) rfl (fun _ => rfl) (fun q hq o ho => ms_59 (by omega) hq ho) (fun _ M3 h => ?_)
  show mm_Runs L xs (d + 1) 171 (37, [some (.ref 80), none, none, none, none, none, none], [], M3) o
  refine mm_Runs.seq (l := [(37, .aload_n 0, 1), (38, .getfield 23, 3), (41, .iconst 0, 1)]) (S2 := (42, [some (.ref 80), none, none, none, none, none, none], [.int (0 : Int32), .ref 5], M3)) (by decide +kernel) (hO := mm_own_171) rfl ?_
  refine mm_R_call (v := mm_wv) h hA (k2 := 57) (as := [.ref 5, .int (0 : Int32)]) (r := []) rfl (fun _ => rfl) (fun q hq o ho => ms_57 (by omega) hq ho) (fun _ M4 h => ?_)
  show mm_Runs L xs (d + 1) 171 (45, [some (.ref 80), none, none, none, none, none, none], [], M4) o
  refine mm_Runs.seq (l := [(45, .aload_n 0, 1)]) (S2 := (46, [some (.ref 80), none, none, none, none, none, none], [.ref 80], M4)) (by decide +kernel) (hO := mm_own_171) rfl ?_
  refine mm_R_call (v := mm_wv) h hA (k2 := 158) (as := [.ref 80]) (r := []) rfl (fun _ => rfl) (fun q hq o ho => ms_158 (by omega) hq ho) (fun _ M5 h => ?_)
  show mm_Runs L xs (d + 1) 171 (49, [some (.ref 80), none, none, none, none, none, none], [], M5) o
  refine mm_Runs.seq (l := [(49, .aload_n 0, 1), (50, .lconst 0, 1), (51, .putfield 172, 3), (54, .iconst 0, 1), (55, .istore_n 1, 1), (56, .iconst 0, 1), (57, .istore_n 2, 1)]) (S2 := (58, [some (.ref 80), some (.int (0 : Int32)), some (.int (0 : Int32)), none, none, none, none], [], (mm_pl M5 80 15 (0 : Int64)))) (by decide +kernel) (hO := mm_own_171) rfl ?_
  have hp : mp_171_58 L xs (d + 1) (0 : Int32) (0 : Int32) (mm_pl M5 80 15 (0 : Int64)) o := by
    refine ms_171_L58 hd h hA (fun r7 M6 h => ?_)
    intro y8 y9 y10 y11 y12 y13
    show mm_Runs L xs (d + 1) 171 (152, [some (.ref 80), y8, y9, y10, y11, y12, y13], [], M6) o
    exact (ms_171_j152 hd h hA : mp_171_152 L xs (d + 1) M6 o) y8 y9 y10 y11 y12 y13
  exact hp none none none none
-- 50: PlainPacks$Sink.become([II)V (depth 2)
theorem mm_own_50 : mm_own 50 = 2 := rfl
noncomputable def mf_50 (v2 : Int32) (M : mm_M) : mm_O Unit := if v2 < 0 then (some (.inl (), M)) else (if (16384 : Int32) < v2 then (some (.inl (), M)) else (if (16384 : Int32) < v2 then (some (.inl (), M)) else (if mm_cpok (0 : Int32) (0 : Int32) v2 16384 16384 then some (.inl (), (mm_pi (mm_cpM M 6 (0 : Int32) 4 (0 : Int32) v2) 3 1 v2)) else none)))
set_option maxRecDepth 8000 in
set_option maxHeartbeats 4000000 in
theorem ms_50 {L : Nat} {xs : Nat → Int32} {d : Nat} (hd : 2 ≤ d) {v2 : Int32} {M : mm_M} {q : (Unit ⊕ Nat) × mm_M} {o : mm_E} (h : mf_50 v2 M = some q) (hA : mm_A (mm_Kr mm_wv) q o) : mm_Runs L xs d 50 (0, mm_ent (mm_ml 50) [.ref 3, .ref 6, .int v2], [], M) o := by
  unfold mf_50 at h
  show mm_Runs L xs (d) 50 (0, [some (.ref 3), some (.ref 6), some (.int v2)], [], M) o
  refine mm_Runs.seq (l := [(0, .iload_n 2, 1)]) (S2 := (1, [some (.ref 3), some (.ref 6), some (.int v2)], [.int v2], M)) (by decide +kernel) (hO := mm_own_50) rfl ?_
  refine mm_R_zlt (t := 35) rfl rfl rfl (fun hc => ?_) (fun hc => ?_)
  · replace h := mm_ip hc h
    cases h
    exact mm_R_retv rfl rfl hA
  · replace h := mm_iq hc h
    refine mm_Runs.seq (l := [(4, .iload_n 2, 1), (5, .aload_n 0, 1), (6, .getfield 9, 3), (9, .arraylength, 1)]) (S2 := (10, [some (.ref 3), some (.ref 6), some (.int v2)], [.int (16384 : Int32), .int v2], M)) (by decide +kernel) (hO := mm_own_50) rfl ?_
    refine mm_R_igt (t := 35) rfl rfl rfl (fun hc => ?_) (fun hc => ?_)
    · replace h := mm_ip hc h
      cases h
      exact mm_R_retv rfl rfl hA
    · replace h := mm_iq hc h
      refine mm_Runs.seq (l := [(13, .iload_n 2, 1), (14, .aload_n 1, 1), (15, .arraylength, 1)]) (S2 := (16, [some (.ref 3), some (.ref 6), some (.int v2)], [.int (16384 : Int32), .int v2], M)) (by decide +kernel) (hO := mm_own_50) rfl ?_
      refine mm_R_igt (t := 35) rfl rfl rfl (fun hc => ?_) (fun hc => ?_)
      · replace h := mm_ip hc h
        cases h
        exact mm_R_retv rfl rfl hA
      · replace h := mm_iq hc h
        refine mm_Runs.seq (l := [(19, .aload_n 1, 1), (20, .iconst 0, 1), (21, .aload_n 0, 1), (22, .getfield 9, 3), (25, .iconst 0, 1), (26, .iload_n 2, 1)]) (S2 := (27, [some (.ref 3), some (.ref 6), some (.int v2)], [.int v2, .int (0 : Int32), .ref 4, .int (0 : Int32), .ref 6], M)) (by decide +kernel) (hO := mm_own_50) rfl ?_
        obtain ⟨hb, h⟩ := mm_gd h
        refine mm_R_cpy rfl rfl rfl rfl rfl hb (by omega) ?_
        refine mm_Runs.seq (l := [(30, .aload_n 0, 1), (31, .iload_n 2, 1), (32, .putfield 15, 3)]) (S2 := (35, [some (.ref 3), some (.ref 6), some (.int v2)], [], (mm_pi (mm_cpM M 6 (0 : Int32) 4 (0 : Int32) v2) 3 1 v2))) (by decide +kernel) (hO := mm_own_50) rfl ?_
        cases h
        exact mm_R_retv rfl rfl hA
-- 20: PlainPacks.pack(I)I (depth 8)
theorem mm_own_20 : mm_own 20 = 0 := rfl
def mp_20_175 (L : Nat) (xs : Nat → Int32) (d : Nat) (M : mm_M) (o : mm_E) : Prop := ∀ z1 : Option Value, mm_Runs L xs d 20 (175, [some (.ref 0), z1], [], M) o
noncomputable def mf_20_j175 (M : mm_M) : mm_O Int32 := if (M.1 5 2) = 0 then (mm_B (mf_50 (M.1 5 1) M) (fun _ M1 => some (.inl (M1.1 3 1), M1))) else (some (.inl (-1 : Int32), M))
set_option maxRecDepth 8000 in
set_option maxHeartbeats 4000000 in
theorem ms_20_j175 {L : Nat} {xs : Nat → Int32} {d : Nat} (hd : 8 ≤ d) {M : mm_M} {q : (Int32 ⊕ Nat) × mm_M} {o : mm_E} (h : mf_20_j175 M = some q) (hA : mm_A (mm_Kr mm_wi) q o) : mp_20_175 L xs d M o := by
  unfold mf_20_j175 at h
  obtain ⟨d, rfl⟩ := mm_d1 (n := 7) hd
  intro z1
  show mm_Runs L xs (d + 1) 20 (175, [some (.ref 0), z1], [], M) o
  refine mm_Runs.seq (l := [(175, .aload_n 0, 1), (176, .getfield 26, 3), (179, .getfield 226, 3)]) (S2 := (182, [some (.ref 0), z1], [.int (M.1 5 2)], M)) (by decide +kernel) (hO := mm_own_20) rfl ?_
  refine mm_R_zeq (t := 187) rfl rfl rfl (fun hc => ?_) (fun hc => ?_)
  · replace h := mm_ip hc h
    refine mm_Runs.seq (l := [(187, .aload_n 0, 1), (188, .getfield 19, 3), (191, .aload_n 0, 1), (192, .getfield 26, 3), (195, .getfield 230, 3), (198, .aload_n 0, 1), (199, .getfield 26, 3), (202, .getfield 231, 3)]) (S2 := (205, [some (.ref 0), z1], [.int (M.1 5 1), .ref 6, .ref 3], M)) (by decide +kernel) (hO := mm_own_20) rfl ?_
    refine mm_R_call (v := mm_wv) h hA (k2 := 50) (as := [.ref 3, .ref 6, .int (M.1 5 1)]) (r := []) rfl (fun _ => rfl) (fun q hq o ho => ms_50 (by omega) hq ho) (fun _ M1 h => ?_)
    show mm_Runs L xs (d + 1) 20 (208, [some (.ref 0), z1], [], M1) o
    refine mm_Runs.seq (l := [(208, .aload_n 0, 1), (209, .getfield 19, 3), (212, .getfield 118, 3)]) (S2 := (215, [some (.ref 0), z1], [.int (M1.1 3 1)], M1)) (by decide +kernel) (hO := mm_own_20) rfl ?_
    cases h
    exact mm_R_reti rfl rfl hA
  · replace h := mm_iq hc h
    refine mm_Runs.seq (l := [(185, .iconst (-1), 1)]) (S2 := (186, [some (.ref 0), z1], [.int (-1 : Int32)], M)) (by decide +kernel) (hO := mm_own_20) rfl ?_
    cases h
    exact mm_R_reti rfl rfl hA
noncomputable def mf_20 (v1 : Int32) (M : mm_M) : mm_O Int32 := mm_B (mf_26 v1 M) (fun _ M1 => mm_B (mf_55 M1) (fun _ M2 => if v1 = (0 : Int32) then (mm_B (mf_127 M2) (fun _ M3 => mf_20_j175 M3)) else if v1 = (1 : Int32) then (mm_B (mf_91 M2) (fun _ M4 => mf_20_j175 M4)) else if v1 = (2 : Int32) then (mm_B (mf_89 M2) (fun _ M5 => mf_20_j175 M5)) else if v1 = (3 : Int32) then (mm_B (mf_90 M2) (fun _ M6 => mf_20_j175 M6)) else if v1 = (4 : Int32) then (mm_B (mf_112 M2) (fun _ M7 => mf_20_j175 M7)) else if v1 = (5 : Int32) then (mm_B (mf_113 M2) (fun _ M8 => mf_20_j175 M8)) else if v1 = (6 : Int32) then (mm_B (mf_129 M2) (fun _ M9 => mf_20_j175 M9)) else if v1 = (7 : Int32) then (mm_B (mf_133 M2) (fun _ M10 => mf_20_j175 M10)) else if v1 = (8 : Int32) then (mm_B (mf_135 M2) (fun _ M11 => mf_20_j175 M11)) else if v1 = (9 : Int32) then (mm_B (mf_147 M2) (fun _ M12 => mf_20_j175 M12)) else (mm_B (mf_171 M2) (fun _ M13 => mf_20_j175 M13))))
set_option maxRecDepth 8000 in
set_option maxHeartbeats 4000000 in
theorem ms_20 {L : Nat} {xs : Nat → Int32} {d : Nat} (hd : 8 ≤ d) {v1 : Int32} {M : mm_M} {q : (Int32 ⊕ Nat) × mm_M} {o : mm_E} (h : mf_20 v1 M = some q) (hA : mm_A (mm_Kr mm_wi) q o) : mm_Runs L xs d 20 (0, mm_ent (mm_ml 20) [.ref 0, .int v1], [], M) o := by
  unfold mf_20 at h
  obtain ⟨d, rfl⟩ := mm_d1 (n := 7) hd
  show mm_Runs L xs (d + 1) 20 (0, [some (.ref 0), some (.int v1)], [], M) o
  refine mm_Runs.seq (l := [(0, .iload_n 1, 1)]) (S2 := (1, [some (.ref 0), some (.int v1)], [.int v1], M)) (by decide +kernel) (hO := mm_own_20) rfl ?_
  refine mm_R_call (v := mm_wv) h hA (k2 := 26) (as := [.int v1]) (r := []) rfl (fun _ => rfl) (fun q hq o ho => ms_26 (by omega) hq ho) (fun _ M1 h => ?_)
  show mm_Runs L xs (d + 1) 20 (4, [some (.ref 0), some (.int v1)], [], M1) o
  refine mm_Runs.seq (l := [(4, .aload_n 0, 1), (5, .getfield 26, 3)]) (S2 := (8, [some (.ref 0), some (.int v1)], [.ref 5], M1)) (by decide +kernel) (hO := mm_own_20) rfl ?_
  refine mm_R_call (v := mm_wv) h hA (k2 := 55) (as := [.ref 5]) (r := []) rfl (fun _ => rfl) (fun q hq o ho => ms_55 (by omega) hq ho) (fun _ M2 h => ?_)
  show mm_Runs L xs (d + 1) 20 (11, [some (.ref 0), some (.int v1)], [], M2) o
  refine mm_Runs.seq (l := [(11, .iload_n 1, 1)]) (S2 := (12, [some (.ref 0), some (.int v1)], [.int v1], M2)) (by decide +kernel) (hO := mm_own_20) rfl ?_
  by_cases hc0 : v1 = (0 : Int32)
  · replace h := mm_ip hc0 h
    refine mm_R_sw (t := 68) rfl rfl rfl (by rw [hc0]; rfl) ?_
    refine mm_Runs.seq (l := [(68, .aload_n 0, 1), (69, .getfield 63, 3)]) (S2 := (72, [some (.ref 0), some (.int v1)], [.ref 41], M2)) (by decide +kernel) (hO := mm_own_20) rfl ?_
    refine mm_R_call (v := mm_wv) h hA (k2 := 127) (as := [.ref 41]) (r := []) rfl (fun _ => rfl) (fun q hq o ho => ms_127 (by omega) hq ho) (fun _ M3 h => ?_)
    show mm_Runs L xs (d + 1) 20 (75, [some (.ref 0), some (.int v1)], [], M3) o
    refine mm_Runs.seq (l := [(75, .goto 100, 3)]) (S2 := (175, [some (.ref 0), some (.int v1)], [], M3)) (by decide +kernel) (hO := mm_own_20) rfl ?_
    exact (ms_20_j175 hd h hA : mp_20_175 L xs (d + 1) M3 o) (some (.int v1))
  replace h := mm_iq hc0 h
  by_cases hc1 : v1 = (1 : Int32)
  · replace h := mm_ip hc1 h
    refine mm_R_sw (t := 78) rfl rfl rfl (by rw [hc1]; rfl) ?_
    refine mm_Runs.seq (l := [(78, .aload_n 0, 1), (79, .getfield 47, 3)]) (S2 := (82, [some (.ref 0), some (.int v1)], [.ref 16], M2)) (by decide +kernel) (hO := mm_own_20) rfl ?_
    refine mm_R_call (v := mm_wv) h hA (k2 := 91) (as := [.ref 16]) (r := []) rfl (fun _ => rfl) (fun q hq o ho => ms_91 (by omega) hq ho) (fun _ M4 h => ?_)
    show mm_Runs L xs (d + 1) 20 (85, [some (.ref 0), some (.int v1)], [], M4) o
    refine mm_Runs.seq (l := [(85, .goto 90, 3)]) (S2 := (175, [some (.ref 0), some (.int v1)], [], M4)) (by decide +kernel) (hO := mm_own_20) rfl ?_
    exact (ms_20_j175 hd h hA : mp_20_175 L xs (d + 1) M4 o) (some (.int v1))
  replace h := mm_iq hc1 h
  by_cases hc2 : v1 = (2 : Int32)
  · replace h := mm_ip hc2 h
    refine mm_R_sw (t := 88) rfl rfl rfl (by rw [hc2]; rfl) ?_
    refine mm_Runs.seq (l := [(88, .aload_n 0, 1), (89, .getfield 47, 3)]) (S2 := (92, [some (.ref 0), some (.int v1)], [.ref 16], M2)) (by decide +kernel) (hO := mm_own_20) rfl ?_
    refine mm_R_call (v := mm_wv) h hA (k2 := 89) (as := [.ref 16]) (r := []) rfl (fun _ => rfl) (fun q hq o ho => ms_89 (by omega) hq ho) (fun _ M5 h => ?_)
    show mm_Runs L xs (d + 1) 20 (95, [some (.ref 0), some (.int v1)], [], M5) o
    refine mm_Runs.seq (l := [(95, .goto 80, 3)]) (S2 := (175, [some (.ref 0), some (.int v1)], [], M5)) (by decide +kernel) (hO := mm_own_20) rfl ?_
    exact (ms_20_j175 hd h hA : mp_20_175 L xs (d + 1) M5 o) (some (.int v1))
  replace h := mm_iq hc2 h
  by_cases hc3 : v1 = (3 : Int32)
  · replace h := mm_ip hc3 h
    refine mm_R_sw (t := 98) rfl rfl rfl (by rw [hc3]; rfl) ?_
    refine mm_Runs.seq (l := [(98, .aload_n 0, 1), (99, .getfield 47, 3)]) (S2 := (102, [some (.ref 0), some (.int v1)], [.ref 16], M2)) (by decide +kernel) (hO := mm_own_20) rfl ?_
    refine mm_R_call (v := mm_wv) h hA (k2 := 90) (as := [.ref 16]) (r := []) rfl (fun _ => rfl) (fun q hq o ho => ms_90 (by omega) hq ho) (fun _ M6 h => ?_)
    show mm_Runs L xs (d + 1) 20 (105, [some (.ref 0), some (.int v1)], [], M6) o
    refine mm_Runs.seq (l := [(105, .goto 70, 3)]) (S2 := (175, [some (.ref 0), some (.int v1)], [], M6)) (by decide +kernel) (hO := mm_own_20) rfl ?_
    exact (ms_20_j175 hd h hA : mp_20_175 L xs (d + 1) M6 o) (some (.int v1))
  replace h := mm_iq hc3 h
  by_cases hc4 : v1 = (4 : Int32)
  · replace h := mm_ip hc4 h
    refine mm_R_sw (t := 108) rfl rfl rfl (by rw [hc4]; rfl) ?_
    refine mm_Runs.seq (l := [(108, .aload_n 0, 1), (109, .getfield 56, 3)]) (S2 := (112, [some (.ref 0), some (.int v1)], [.ref 35], M2)) (by decide +kernel) (hO := mm_own_20) rfl ?_
    refine mm_R_call (v := mm_wv) h hA (k2 := 112) (as := [.ref 35]) (r := []) rfl (fun _ => rfl) (fun q hq o ho => ms_112 (by omega) hq ho) (fun _ M7 h => ?_)
    show mm_Runs L xs (d + 1) 20 (115, [some (.ref 0), some (.int v1)], [], M7) o
    refine mm_Runs.seq (l := [(115, .goto 60, 3)]) (S2 := (175, [some (.ref 0), some (.int v1)], [], M7)) (by decide +kernel) (hO := mm_own_20) rfl ?_
    exact (ms_20_j175 hd h hA : mp_20_175 L xs (d + 1) M7 o) (some (.int v1))
  replace h := mm_iq hc4 h
  by_cases hc5 : v1 = (5 : Int32)
  · replace h := mm_ip hc5 h
    refine mm_R_sw (t := 118) rfl rfl rfl (by rw [hc5]; rfl) ?_
    refine mm_Runs.seq (l := [(118, .aload_n 0, 1), (119, .getfield 56, 3)]) (S2 := (122, [some (.ref 0), some (.int v1)], [.ref 35], M2)) (by decide +kernel) (hO := mm_own_20) rfl ?_
    refine mm_R_call (v := mm_wv) h hA (k2 := 113) (as := [.ref 35]) (r := []) rfl (fun _ => rfl) (fun q hq o ho => ms_113 (by omega) hq ho) (fun _ M8 h => ?_)
    show mm_Runs L xs (d + 1) 20 (125, [some (.ref 0), some (.int v1)], [], M8) o
    refine mm_Runs.seq (l := [(125, .goto 50, 3)]) (S2 := (175, [some (.ref 0), some (.int v1)], [], M8)) (by decide +kernel) (hO := mm_own_20) rfl ?_
    exact (ms_20_j175 hd h hA : mp_20_175 L xs (d + 1) M8 o) (some (.int v1))
  replace h := mm_iq hc5 h
  by_cases hc6 : v1 = (6 : Int32)
  · replace h := mm_ip hc6 h
    refine mm_R_sw (t := 128) rfl rfl rfl (by rw [hc6]; rfl) ?_
    refine mm_Runs.seq (l := [(128, .aload_n 0, 1), (129, .getfield 63, 3)]) (S2 := (132, [some (.ref 0), some (.int v1)], [.ref 41], M2)) (by decide +kernel) (hO := mm_own_20) rfl ?_
    refine mm_R_call (v := mm_wv) h hA (k2 := 129) (as := [.ref 41]) (r := []) rfl (fun _ => rfl) (fun q hq o ho => ms_129 (by omega) hq ho) (fun _ M9 h => ?_)
    show mm_Runs L xs (d + 1) 20 (135, [some (.ref 0), some (.int v1)], [], M9) o
    refine mm_Runs.seq (l := [(135, .goto 40, 3)]) (S2 := (175, [some (.ref 0), some (.int v1)], [], M9)) (by decide +kernel) (hO := mm_own_20) rfl ?_
    exact (ms_20_j175 hd h hA : mp_20_175 L xs (d + 1) M9 o) (some (.int v1))
  replace h := mm_iq hc6 h
  by_cases hc7 : v1 = (7 : Int32)
  · replace h := mm_ip hc7 h
    refine mm_R_sw (t := 138) rfl rfl rfl (by rw [hc7]; rfl) ?_
    refine mm_Runs.seq (l := [(138, .aload_n 0, 1), (139, .getfield 63, 3)]) (S2 := (142, [some (.ref 0), some (.int v1)], [.ref 41], M2)) (by decide +kernel) (hO := mm_own_20) rfl ?_
    refine mm_R_call (v := mm_wv) h hA (k2 := 133) (as := [.ref 41]) (r := []) rfl (fun _ => rfl) (fun q hq o ho => ms_133 (by omega) hq ho) (fun _ M10 h => ?_)
    show mm_Runs L xs (d + 1) 20 (145, [some (.ref 0), some (.int v1)], [], M10) o
    refine mm_Runs.seq (l := [(145, .goto 30, 3)]) (S2 := (175, [some (.ref 0), some (.int v1)], [], M10)) (by decide +kernel) (hO := mm_own_20) rfl ?_
    exact (ms_20_j175 hd h hA : mp_20_175 L xs (d + 1) M10 o) (some (.int v1))
  replace h := mm_iq hc7 h
  by_cases hc8 : v1 = (8 : Int32)
  · replace h := mm_ip hc8 h
    refine mm_R_sw (t := 148) rfl rfl rfl (by rw [hc8]; rfl) ?_
    refine mm_Runs.seq (l := [(148, .aload_n 0, 1), (149, .getfield 63, 3)]) (S2 := (152, [some (.ref 0), some (.int v1)], [.ref 41], M2)) (by decide +kernel) (hO := mm_own_20) rfl ?_
    refine mm_R_call (v := mm_wv) h hA (k2 := 135) (as := [.ref 41]) (r := []) rfl (fun _ => rfl) (fun q hq o ho => ms_135 (by omega) hq ho) (fun _ M11 h => ?_)
    show mm_Runs L xs (d + 1) 20 (155, [some (.ref 0), some (.int v1)], [], M11) o
    refine mm_Runs.seq (l := [(155, .goto 20, 3)]) (S2 := (175, [some (.ref 0), some (.int v1)], [], M11)) (by decide +kernel) (hO := mm_own_20) rfl ?_
    exact (ms_20_j175 hd h hA : mp_20_175 L xs (d + 1) M11 o) (some (.int v1))
  replace h := mm_iq hc8 h
  by_cases hc9 : v1 = (9 : Int32)
  · replace h := mm_ip hc9 h
    refine mm_R_sw (t := 158) rfl rfl rfl (by rw [hc9]; rfl) ?_
    refine mm_Runs.seq (l := [(158, .aload_n 0, 1), (159, .getfield 72, 3)]) (S2 := (162, [some (.ref 0), some (.int v1)], [.ref 42], M2)) (by decide +kernel) (hO := mm_own_20) rfl ?_
    refine mm_R_call (v := mm_wv) h hA (k2 := 147) (as := [.ref 42]) (r := []) rfl (fun _ => rfl) (fun q hq o ho => ms_147 (by omega) hq ho) (fun _ M12 h => ?_)
    show mm_Runs L xs (d + 1) 20 (165, [some (.ref 0), some (.int v1)], [], M12) o
    refine mm_Runs.seq (l := [(165, .goto 10, 3)]) (S2 := (175, [some (.ref 0), some (.int v1)], [], M12)) (by decide +kernel) (hO := mm_own_20) rfl ?_
    exact (ms_20_j175 hd h hA : mp_20_175 L xs (d + 1) M12 o) (some (.int v1))
  replace h := mm_iq hc9 h
  have e0 := mm_i32 (n := 0) hc0 (by decide) (by decide)
  have e1 := mm_i32 (n := 1) hc1 (by decide) (by decide)
  have e2 := mm_i32 (n := 2) hc2 (by decide) (by decide)
  have e3 := mm_i32 (n := 3) hc3 (by decide) (by decide)
  have e4 := mm_i32 (n := 4) hc4 (by decide) (by decide)
  have e5 := mm_i32 (n := 5) hc5 (by decide) (by decide)
  have e6 := mm_i32 (n := 6) hc6 (by decide) (by decide)
  have e7 := mm_i32 (n := 7) hc7 (by decide) (by decide)
  have e8 := mm_i32 (n := 8) hc8 (by decide) (by decide)
  have e9 := mm_i32 (n := 9) hc9 (by decide) (by decide)
  refine mm_R_sw (t := 168) rfl rfl rfl (mm_tsd (by omega) rfl rfl) ?_
  refine mm_Runs.seq (l := [(168, .aload_n 0, 1), (169, .getfield 79, 3)]) (S2 := (172, [some (.ref 0), some (.int v1)], [.ref 80], M2)) (by decide +kernel) (hO := mm_own_20) rfl ?_
  refine mm_R_call (v := mm_wv) h hA (k2 := 171) (as := [.ref 80]) (r := []) rfl (fun _ => rfl) (fun q hq o ho => ms_171 (by omega) hq ho) (fun _ M13 h => ?_)
  show mm_Runs L xs (d + 1) 20 (175, [some (.ref 0), some (.int v1)], [], M13) o
  exact (ms_20_j175 hd h hA : mp_20_175 L xs (d + 1) M13 o) (some (.int v1))
-- 7: PlainPacksLaw.pack(LPlainPacks;I[J)I (depth 9)
theorem mm_own_7 : mm_own 7 = 13 := rfl
noncomputable def mf_7 (v1 : Int32) (M : mm_M) : mm_O Int32 := mm_Bc (mf_20 v1 M) (fun r1 M2 => if mm_in (0 : Int32) 1 then some (.inl (0 : Int32), (mm_pl M2 110 (0 : Int32).toNatClampNeg r1.toInt64)) else none) 1 (fun M3 => some (.inl (1 : Int32), M3))
set_option maxRecDepth 8000 in
set_option maxHeartbeats 4000000 in
theorem ms_7 {L : Nat} {xs : Nat → Int32} {d : Nat} (hd : 9 ≤ d) {v1 : Int32} {M : mm_M} {q : (Int32 ⊕ Nat) × mm_M} {o : mm_E} (h : mf_7 v1 M = some q) (hA : mm_A (mm_Kr mm_wi) q o) : mm_Runs L xs d 7 (0, mm_ent (mm_ml 7) [.ref 0, .int v1, .ref 110], [], M) o := by
  unfold mf_7 at h
  obtain ⟨d, rfl⟩ := mm_d1 (n := 8) hd
  show mm_Runs L xs (d + 1) 7 (0, [some (.ref 0), some (.int v1), some (.ref 110), none], [], M) o
  refine mm_Runs.seq (l := [(0, .aload_n 2, 1), (1, .iconst 0, 1), (2, .aload_n 0, 1), (3, .iload_n 1, 1)]) (S2 := (4, [some (.ref 0), some (.int v1), some (.ref 110), none], [.int v1, .ref 0, .int (0 : Int32), .ref 110], M)) (by decide +kernel) (hO := mm_own_7) rfl ?_
  refine mm_R_callc (v := mm_wi) (X := 1) (hh := 13) (i := 3) h hA (k2 := 20) (as := [.ref 0, .int v1]) (r := [.int (0 : Int32), .ref 110]) rfl rfl rfl (fun q hq o ho => ms_20 (by omega) hq ho) (fun r1 M2 h => ?_) (fun M3 h => ?_)
  · show mm_Runs L xs (d + 1) 7 (7, [some (.ref 0), some (.int v1), some (.ref 110), none], [.int r1, .int (0 : Int32), .ref 110], M2) o
    refine mm_Runs.seq (l := [(7, .i2l, 1)]) (S2 := (8, [some (.ref 0), some (.int v1), some (.ref 110), none], [.long r1.toInt64, .int (0 : Int32), .ref 110], M2)) (by decide +kernel) (hO := mm_own_7) rfl ?_
    obtain ⟨hb, h⟩ := mm_gd h
    refine mm_R_last rfl rfl hb ?_
    refine mm_Runs.seq (l := [(9, .goto 6, 3), (15, .iconst 0, 1)]) (S2 := (16, [some (.ref 0), some (.int v1), some (.ref 110), none], [.int (0 : Int32)], (mm_pl M2 110 (0 : Int32).toNatClampNeg r1.toInt64))) (by decide +kernel) (hO := mm_own_7) rfl ?_
    cases h
    exact mm_R_reti rfl rfl hA
  · show mm_Runs L xs (d + 1) 7 (13, [some (.ref 0), some (.int v1), some (.ref 110), none], [], M3) o
    refine mm_Runs.seq (l := [(13, .iconst 1, 1)]) (S2 := (14, [some (.ref 0), some (.int v1), some (.ref 110), none], [.int (1 : Int32)], M3)) (by decide +kernel) (hO := mm_own_7) rfl ?_
    cases h
    exact mm_R_reti rfl rfl hA
