/-! MEANINGS 10 -/
-- 144: PlainPacks$Sorted.addBytes(IJ)V (depth 8)
theorem mm_own_144 : mm_own 144 = 10 := rfl
def mp_144_19 (L : Nat) (xs : Nat → Int32) (d : Nat) (v1 : Int32) (v2 : Int64) (s0 : Int32) (M : mm_M) (o : mm_E) : Prop := ∀ z3 z4 : Option Value, mm_Runs L xs d 144 (19, [some (.ref 42), some (.int v1), some (.long v2), z3, z4], [.int s0], M) o
def mp_144_25 (L : Nat) (xs : Nat → Int32) (d : Nat) (v1 : Int32) (v2 : Int64) (v4 : Int32) (M : mm_M) (o : mm_E) : Prop := ∀ z3 : Option Value, mm_Runs L xs d 144 (25, [some (.ref 42), some (.int v1), some (.long v2), z3, some (.int v4)], [], M) o
def mp_144_59 (L : Nat) (xs : Nat → Int32) (d : Nat) (M : mm_M) (o : mm_E) : Prop := ∀ z0 z1 z2 z3 z4 : Option Value, mm_Runs L xs d 144 (59, [z0, z1, z2, z3, z4], [], M) o
noncomputable def mf_144_b25 (v1 : Int32) (v2 : Int64) (v4 : Int32) (M : mm_M) : mm_O ((Int32) ⊕ (Unit)) := if v4.toInt64 < v2 then (if mm_in (M.1 42 12) 16384 then some (.inl (.inl (v4 + (1 : Int32))), (mm_pi (mm_pi M 47 (M.1 42 12).toNatClampNeg v1) 42 12 ((M.1 42 12) + (1 : Int32)))) else none) else (some (.inl (.inr ()), M))
noncomputable def mf_144_L25 (v1 : Int32) (v2 : Int64) (s : Int32) (M : mm_M) : mm_O (Unit) := mm_L (fun s M => mf_144_b25 v1 v2 s M) s M
set_option maxRecDepth 8000 in
set_option maxHeartbeats 4000000 in
theorem ms_144_b25 {L : Nat} {xs : Nat → Int32} {d : Nat} (hd : 8 ≤ d) {v1 : Int32} {v2 : Int64} {v4 : Int32} {M : mm_M} {q : (((Int32) ⊕ (Unit)) ⊕ Nat) × mm_M} {o : mm_E} (h : mf_144_b25 v1 v2 v4 M = some q) (hA : mm_A (mm_K2 (fun s M o => mp_144_25 L xs (d) v1 v2 s M o) (fun r M o => mp_144_59 L xs (d) M o)) q o) : mp_144_25 L xs d v1 v2 v4 M o := by
  unfold mf_144_b25 at h
  obtain ⟨d, rfl⟩ := mm_d1 (n := 7) hd
  intro z3
  show mm_Runs L xs (d + 1) 144 (25, [some (.ref 42), some (.int v1), some (.long v2), z3, some (.int v4)], [], M) o
  refine mm_Runs.seq (l := [(25, .iload 4, 2), (27, .i2l, 1), (28, .lload_n 2, 1)]) (S2 := (29, [some (.ref 42), some (.int v1), some (.long v2), z3, some (.int v4)], [.long v2, .long v4.toInt64], M)) (by decide +kernel) (hO := mm_own_144) rfl ?_
  refine mm_R_lge (t := 59) rfl rfl rfl rfl (fun hc => ?_) (fun hc => ?_)
  · replace h := mm_ip hc h
    refine mm_Runs.seq (l := [(33, .aload_n 0, 1), (34, .getfield 27, 3), (37, .aload_n 0, 1), (38, .getfield 124, 3), (41, .iload_n 1, 1)]) (S2 := (42, [some (.ref 42), some (.int v1), some (.long v2), z3, some (.int v4)], [.int v1, .int (M.1 42 12), .ref 47], M)) (by decide +kernel) (hO := mm_own_144) rfl ?_
    obtain ⟨hb, h⟩ := mm_gd h
    refine mm_R_iast rfl rfl hb ?_
    refine mm_Runs.seq (l := [(43, .aload_n 0, 1), (44, .dup, 1), (45, .getfield 124, 3), (48, .iconst 1, 1), (49, .iadd, 1), (50, .putfield 124, 3), (53, .iinc 4 1, 3), (56, .goto (-31), 3)]) (S2 := (25, [some (.ref 42), some (.int v1), some (.long v2), (mm_no2 z3), some (.int (v4 + (1 : Int32)))], [], (mm_pi (mm_pi M 47 (M.1 42 12).toNatClampNeg v1) 42 12 ((M.1 42 12) + (1 : Int32))))) (by decide +kernel) (hO := mm_own_144) rfl ?_
    cases h
    exact (show mp_144_25 L xs (d + 1) v1 v2 (v4 + (1 : Int32)) (mm_pi (mm_pi M 47 (M.1 42 12).toNatClampNeg v1) 42 12 ((M.1 42 12) + (1 : Int32))) o from hA) ((mm_no2 z3))
  · replace h := mm_iq hc h
    cases h
    exact (show mp_144_59 L xs (d + 1) M o from hA) (some (.ref 42)) (some (.int v1)) (some (.long v2)) z3 (some (.int v4))
theorem ms_144_L25 {L : Nat} {xs : Nat → Int32} {d : Nat} (hd : 8 ≤ d) {v1 : Int32} {v2 : Int64} {v4 : Int32} {β : Type} {K : β → mm_M → mm_E → Prop} {F : (Unit) → mm_M → mm_O β} {M : mm_M} {q : (β ⊕ Nat) × mm_M} {o : mm_E} (h : mm_B (mf_144_L25 v1 v2 v4 M) F = some q) (hA : mm_A K q o) (hx : ∀ (r : (Unit)) (M2 : mm_M), F r M2 = some q → (fun r M o => mp_144_59 L xs (d) M o) r M2 o) : mp_144_25 L xs d v1 v2 v4 M o := mm_R_loop (s := v4) (M := M) (P := (fun s M o => mp_144_25 L xs (d) v1 v2 s M o)) (X := (fun r M o => mp_144_59 L xs (d) M o)) h hA (fun s M q hq hA => ms_144_b25 hd hq hA) hx
noncomputable def mf_144_j19 (v1 : Int32) (v2 : Int64) (s0 : Int32) (M : mm_M) : mm_O Unit := mm_B (mf_27 s0 M) (fun _ M1 => mm_B (mf_144_L25 v1 v2 (0 : Int32) M1) (fun r3 M2 => some (.inl (), M2)))
set_option maxRecDepth 8000 in
set_option maxHeartbeats 4000000 in
theorem ms_144_j19 {L : Nat} {xs : Nat → Int32} {d : Nat} (hd : 8 ≤ d) {v1 : Int32} {v2 : Int64} {s0 : Int32} {M : mm_M} {q : (Unit ⊕ Nat) × mm_M} {o : mm_E} (h : mf_144_j19 v1 v2 s0 M = some q) (hA : mm_A (mm_Kr mm_wv) q o) : mp_144_19 L xs d v1 v2 s0 M o := by
  unfold mf_144_j19 at h
  obtain ⟨d, rfl⟩ := mm_d1 (n := 7) hd
  intro z3 z4
  show mm_Runs L xs (d + 1) 144 (19, [some (.ref 42), some (.int v1), some (.long v2), z3, z4], [.int s0], M) o
  refine mm_R_call (v := mm_wv) h hA (k2 := 27) (as := [.int s0]) (r := []) rfl (fun _ => rfl) (fun q hq o ho => ms_27 (by omega) hq ho) (fun _ M1 h => ?_)
  show mm_Runs L xs (d + 1) 144 (22, [some (.ref 42), some (.int v1), some (.long v2), z3, z4], [], M1) o
  refine mm_Runs.seq (l := [(22, .iconst 0, 1), (23, .istore 4, 2)]) (S2 := (25, [some (.ref 42), some (.int v1), some (.long v2), (mm_no2 z3), some (.int (0 : Int32))], [], M1)) (by decide +kernel) (hO := mm_own_144) rfl ?_
  have hp : mp_144_25 L xs (d + 1) v1 v2 (0 : Int32) M1 o := by
    refine ms_144_L25 hd h hA (fun r3 M2 h => ?_)
    intro y4 y5 y6 y7 y8
    show mm_Runs L xs (d + 1) 144 (59, [y4, y5, y6, y7, y8], [], M2) o
    cases h
    exact mm_R_retv rfl rfl hA
  exact hp ((mm_no2 z3))
noncomputable def mf_144 (v1 : Int32) (v2 : Int64) (M : mm_M) : mm_O Unit := if (16384 : Int64) < ((M.1 42 12).toInt64 + v2) then (mf_144_j19 v1 v2 (1 : Int32) M) else (mf_144_j19 v1 v2 (0 : Int32) M)
set_option maxRecDepth 8000 in
set_option maxHeartbeats 4000000 in
theorem ms_144 {L : Nat} {xs : Nat → Int32} {d : Nat} (hd : 8 ≤ d) {v1 : Int32} {v2 : Int64} {M : mm_M} {q : (Unit ⊕ Nat) × mm_M} {o : mm_E} (h : mf_144 v1 v2 M = some q) (hA : mm_A (mm_Kr mm_wv) q o) : mm_Runs L xs d 144 (0, mm_ent (mm_ml 144) [.ref 42, .int v1, .long v2], [], M) o := by
  unfold mf_144 at h
  obtain ⟨d, rfl⟩ := mm_d1 (n := 7) hd
  show mm_Runs L xs (d + 1) 144 (0, [some (.ref 42), some (.int v1), some (.long v2), none, none], [], M) o
  refine mm_Runs.seq (l := [(0, .aload_n 0, 1), (1, .getfield 124, 3), (4, .i2l, 1), (5, .lload_n 2, 1), (6, .ladd, 1), (7, .ldc2_w 149, 3)]) (S2 := (10, [some (.ref 42), some (.int v1), some (.long v2), none, none], [.long (16384 : Int64), .long ((M.1 42 12).toInt64 + v2)], M)) (by decide +kernel) (hO := mm_own_144) rfl ?_
  refine mm_R_lle (t := 18) rfl rfl rfl rfl (fun hc => ?_) (fun hc => ?_)
  · replace h := mm_ip hc h
    refine mm_Runs.seq (l := [(14, .iconst 1, 1), (15, .goto 4, 3)]) (S2 := (19, [some (.ref 42), some (.int v1), some (.long v2), none, none], [.int (1 : Int32)], M)) (by decide +kernel) (hO := mm_own_144) rfl ?_
    exact (ms_144_j19 hd h hA : mp_144_19 L xs (d + 1) v1 v2 (1 : Int32) M o) none none
  · replace h := mm_iq hc h
    refine mm_Runs.seq (l := [(18, .iconst 0, 1)]) (S2 := (19, [some (.ref 42), some (.int v1), some (.long v2), none, none], [.int (0 : Int32)], M)) (by decide +kernel) (hO := mm_own_144) rfl ?_
    exact (ms_144_j19 hd h hA : mp_144_19 L xs (d + 1) v1 v2 (0 : Int32) M o) none none
-- 143: PlainPacks$Sorted.readLetters()V (depth 9)
theorem mm_own_143 : mm_own 143 = 10 := rfl
def mp_143_20 (L : Nat) (xs : Nat → Int32) (d : Nat) (v1 : Int64) (v3 : Int32) (t4 : Nat) (v5 : Int32) (M : mm_M) (o : mm_E) : Prop := ∀ z2 z6 : Option Value, mm_Runs L xs d 143 (20, [some (.ref 42), some (.long v1), z2, some (.int v3), some (.ref (mm_tab t4)), some (.int v5), z6], [], M) o
def mp_143_148 (L : Nat) (xs : Nat → Int32) (d : Nat) (M : mm_M) (o : mm_E) : Prop := ∀ z0 z1 z2 z3 z4 z5 z6 : Option Value, mm_Runs L xs d 143 (148, [z0, z1, z2, z3, z4, z5, z6], [], M) o
def mp_143_177 (L : Nat) (xs : Nat → Int32) (d : Nat) (M : mm_M) (o : mm_E) : Prop := ∀ z0 z1 z2 z3 z4 z5 z6 : Option Value, mm_Runs L xs d 143 (177, [z0, z1, z2, z3, z4, z5, z6], [], M) o
def mp_143_64 (L : Nat) (xs : Nat → Int32) (d : Nat) (v1 : Int64) (v3 : Int32) (v5 : Int32) (v6 : Int32) (s0 : Int32) (M : mm_M) (o : mm_E) : Prop := ∀ z2 z4 : Option Value, mm_Runs L xs d 143 (64, [some (.ref 42), some (.long v1), z2, some (.int v3), z4, some (.int v5), some (.int v6)], [.int s0], M) o
def mp_143_81 (L : Nat) (xs : Nat → Int32) (d : Nat) (v1 : Int64) (v3 : Int32) (t4 : Nat) (v5 : Int32) (M : mm_M) (o : mm_E) : Prop := ∀ z2 z6 : Option Value, mm_Runs L xs d 143 (81, [some (.ref 42), some (.long v1), z2, some (.int v3), some (.ref (mm_tab t4)), some (.int v5), z6], [], M) o
noncomputable def mf_143_j81 (v1 : Int64) (v3 : Int32) (t4 : Nat) (v5 : Int32) (M : mm_M) : mm_O ((Int64 × Int32 × Nat × Int32) ⊕ ((Unit) ⊕ (Unit))) := if t4 < 6 then mm_B (mf_103 (mm_tab t4) 258 M) (fun r1 M2 => if r1 < (2 : Int32) then (if (16384 : Int64) < v1 then (some (.inl (.inl (v1, v3, t4, (v5 + (1 : Int32)))), M2)) else (some (.inl (.inl ((v1 + (mm_lshl (r1 + (1 : Int32)).toInt64 v3)), (v3 + (1 : Int32)), t4, (v5 + (1 : Int32)))), M2))) else (if mm_in (0 : Int32) 256 then mm_B (mf_144 (M2.1 46 (0 : Int32).toNatClampNeg) v1 M2) (fun _ M3 => if r1 = ((M3.1 42 9) + (1 : Int32)) then (some (.inl (.inr (.inl ())), M3)) else (mm_B (mf_141 46 256 (r1 - (1 : Int32)) M3) (fun _ M4 => if mm_in (0 : Int32) 256 then mm_B (mf_144 (M4.1 46 (0 : Int32).toNatClampNeg) (1 : Int64) M4) (fun _ M5 => some (.inl (.inl ((0 : Int64), (0 : Int32), t4, (v5 + (1 : Int32)))), M5)) else none))) else none)) else none
set_option maxRecDepth 8000 in
set_option maxHeartbeats 4000000 in
theorem ms_143_j81 {L : Nat} {xs : Nat → Int32} {d : Nat} (hd : 9 ≤ d) {v1 : Int64} {v3 : Int32} {t4 : Nat} {v5 : Int32} {M : mm_M} {q : (((Int64 × Int32 × Nat × Int32) ⊕ ((Unit) ⊕ (Unit))) ⊕ Nat) × mm_M} {o : mm_E} (h : mf_143_j81 v1 v3 t4 v5 M = some q) (hA : mm_A (mm_K2 (fun s M o => mp_143_20 L xs (d) s.1 s.2.1 s.2.2.1 s.2.2.2 M o) (fun r M o => mm_sm (fun r => mp_143_148 L xs (d) M o) (fun r => mp_143_177 L xs (d) M o) r)) q o) : mp_143_81 L xs d v1 v3 t4 v5 M o := by
  unfold mf_143_j81 at h
  obtain ⟨d, rfl⟩ := mm_d1 (n := 8) hd
  intro z2 z6
  show mm_Runs L xs (d + 1) 143 (81, [some (.ref 42), some (.long v1), z2, some (.int v3), some (.ref (mm_tab t4)), some (.int v5), z6], [], M) o
  refine mm_Runs.seq (l := [(81, .aload 4, 2), (83, .aload_n 0, 1), (84, .getfield 36, 3)]) (S2 := (87, [some (.ref 42), some (.long v1), z2, some (.int v3), some (.ref (mm_tab t4)), some (.int v5), z6], [.ref 1, .ref (mm_tab t4)], M)) (by decide +kernel) (hO := mm_own_143) rfl ?_
  obtain ⟨hg, h⟩ := mm_gd h
  refine mm_R_call (v := mm_wi) h hA (k2 := 103) (as := [.ref (mm_tab t4), .ref 1]) (r := []) (mm_site_v (idx := 145) rfl rfl rfl rfl (mm_isC_cls (mm_isC_tab hg)) rfl rfl) (fun _ => rfl) (fun q hq o ho => ms_103 (mm_isC_tab hg) (by omega) hq ho) (fun r1 M2 h => ?_)
  show mm_Runs L xs (d + 1) 143 (90, [some (.ref 42), some (.long v1), z2, some (.int v3), some (.ref (mm_tab t4)), some (.int v5), z6], [.int r1], M2) o
  refine mm_Runs.seq (l := [(90, .istore 6, 2), (92, .iload 6, 2), (94, .iconst 2, 1)]) (S2 := (95, [some (.ref 42), some (.long v1), z2, some (.int v3), some (.ref (mm_tab t4)), some (.int v5), some (.int r1)], [.int (2 : Int32), .int r1], M2)) (by decide +kernel) (hO := mm_own_143) rfl ?_
  refine mm_R_ige (t := 122) rfl rfl rfl (fun hc => ?_) (fun hc => ?_)
  · replace h := mm_ip hc h
    refine mm_Runs.seq (l := [(98, .lload_n 1, 1), (99, .ldc2_w 149, 3)]) (S2 := (102, [some (.ref 42), some (.long v1), z2, some (.int v3), some (.ref (mm_tab t4)), some (.int v5), some (.int r1)], [.long (16384 : Int64), .long v1], M2)) (by decide +kernel) (hO := mm_own_143) rfl ?_
    refine mm_R_lgt (t := 171) rfl rfl rfl rfl (fun hc => ?_) (fun hc => ?_)
    · replace h := mm_ip hc h
      refine mm_Runs.seq (l := [(171, .iinc 5 1, 3), (174, .goto (-154), 3)]) (S2 := (20, [some (.ref 42), some (.long v1), z2, some (.int v3), some (.ref (mm_tab t4)), some (.int (v5 + (1 : Int32))), some (.int r1)], [], M2)) (by decide +kernel) (hO := mm_own_143) rfl ?_
      cases h
      exact (show mp_143_20 L xs (d + 1) v1 v3 t4 (v5 + (1 : Int32)) M2 o from hA) z2 (some (.int r1))
    · replace h := mm_iq hc h
      refine mm_Runs.seq (l := [(106, .lload_n 1, 1), (107, .iload 6, 2), (109, .iconst 1, 1), (110, .iadd, 1), (111, .i2l, 1), (112, .iload_n 3, 1), (113, .lshl, 1), (114, .ladd, 1), (115, .lstore_n 1, 1), (116, .iinc 3 1, 3), (119, .goto 52, 3), (171, .iinc 5 1, 3), (174, .goto (-154), 3)]) (S2 := (20, [some (.ref 42), some (.long (v1 + (mm_lshl (r1 + (1 : Int32)).toInt64 v3))), none, some (.int (v3 + (1 : Int32))), some (.ref (mm_tab t4)), some (.int (v5 + (1 : Int32))), some (.int r1)], [], M2)) (by decide +kernel) (hO := mm_own_143) rfl ?_
      cases h
      exact (show mp_143_20 L xs (d + 1) (v1 + (mm_lshl (r1 + (1 : Int32)).toInt64 v3)) (v3 + (1 : Int32)) t4 (v5 + (1 : Int32)) M2 o from hA) none (some (.int r1))
  · replace h := mm_iq hc h
    refine mm_Runs.seq (l := [(122, .aload_n 0, 1), (123, .aload_n 0, 1), (124, .getfield 24, 3), (127, .iconst 0, 1)]) (S2 := (128, [some (.ref 42), some (.long v1), z2, some (.int v3), some (.ref (mm_tab t4)), some (.int v5), some (.int r1)], [.int (0 : Int32), .ref 46, .ref 42], M2)) (by decide +kernel) (hO := mm_own_143) rfl ?_
    obtain ⟨hb, h⟩ := mm_gd h
    refine mm_R_iald rfl rfl hb ?_
    refine mm_Runs.seq (l := [(129, .lload_n 1, 1)]) (S2 := (130, [some (.ref 42), some (.long v1), z2, some (.int v3), some (.ref (mm_tab t4)), some (.int v5), some (.int r1)], [.long v1, .int (M2.1 46 (0 : Int32).toNatClampNeg), .ref 42], M2)) (by decide +kernel) (hO := mm_own_143) rfl ?_
    refine mm_R_call (v := mm_wv) h hA (k2 := 144) (as := [.ref 42, .int (M2.1 46 (0 : Int32).toNatClampNeg), .long v1]) (r := []) rfl (fun _ => rfl) (fun q hq o ho => ms_144 (by omega) hq ho) (fun _ M3 h => ?_)
    show mm_Runs L xs (d + 1) 143 (133, [some (.ref 42), some (.long v1), z2, some (.int v3), some (.ref (mm_tab t4)), some (.int v5), some (.int r1)], [], M3) o
    refine mm_Runs.seq (l := [(133, .lconst 0, 1), (134, .lstore_n 1, 1), (135, .iconst 0, 1), (136, .istore_n 3, 1), (137, .iload 6, 2), (139, .aload_n 0, 1), (140, .getfield 125, 3), (143, .iconst 1, 1), (144, .iadd, 1)]) (S2 := (145, [some (.ref 42), some (.long (0 : Int64)), none, some (.int (0 : Int32)), some (.ref (mm_tab t4)), some (.int v5), some (.int r1)], [.int ((M3.1 42 9) + (1 : Int32)), .int r1], M3)) (by decide +kernel) (hO := mm_own_143) rfl ?_
    refine mm_R_ine (t := 149) rfl rfl rfl (fun hc => ?_) (fun hc => ?_)
    · replace h := mm_ip hc h
      cases h
      exact (show mp_143_148 L xs (d + 1) M3 o from hA) (some (.ref 42)) (some (.long (0 : Int64))) none (some (.int (0 : Int32))) (some (.ref (mm_tab t4))) (some (.int v5)) (some (.int r1))
    · replace h := mm_iq hc h
      refine mm_Runs.seq (l := [(149, .aload_n 0, 1), (150, .getfield 24, 3), (153, .iload 6, 2), (155, .iconst 1, 1), (156, .isub, 1)]) (S2 := (157, [some (.ref 42), some (.long (0 : Int64)), none, some (.int (0 : Int32)), some (.ref (mm_tab t4)), some (.int v5), some (.int r1)], [.int (r1 - (1 : Int32)), .ref 46], M3)) (by decide +kernel) (hO := mm_own_143) rfl ?_
      refine mm_R_call (v := mm_wv) h hA (k2 := 141) (as := [.ref 46, .int (r1 - (1 : Int32))]) (r := []) rfl (fun _ => rfl) (fun q hq o ho => ms_141 rfl (by omega) hq ho) (fun _ M4 h => ?_)
      show mm_Runs L xs (d + 1) 143 (160, [some (.ref 42), some (.long (0 : Int64)), none, some (.int (0 : Int32)), some (.ref (mm_tab t4)), some (.int v5), some (.int r1)], [], M4) o
      refine mm_Runs.seq (l := [(160, .aload_n 0, 1), (161, .aload_n 0, 1), (162, .getfield 24, 3), (165, .iconst 0, 1)]) (S2 := (166, [some (.ref 42), some (.long (0 : Int64)), none, some (.int (0 : Int32)), some (.ref (mm_tab t4)), some (.int v5), some (.int r1)], [.int (0 : Int32), .ref 46, .ref 42], M4)) (by decide +kernel) (hO := mm_own_143) rfl ?_
      obtain ⟨hb, h⟩ := mm_gd h
      refine mm_R_iald rfl rfl hb ?_
      refine mm_Runs.seq (l := [(167, .lconst 1, 1)]) (S2 := (168, [some (.ref 42), some (.long (0 : Int64)), none, some (.int (0 : Int32)), some (.ref (mm_tab t4)), some (.int v5), some (.int r1)], [.long (1 : Int64), .int (M4.1 46 (0 : Int32).toNatClampNeg), .ref 42], M4)) (by decide +kernel) (hO := mm_own_143) rfl ?_
      refine mm_R_call (v := mm_wv) h hA (k2 := 144) (as := [.ref 42, .int (M4.1 46 (0 : Int32).toNatClampNeg), .long (1 : Int64)]) (r := []) rfl (fun _ => rfl) (fun q hq o ho => ms_144 (by omega) hq ho) (fun _ M5 h => ?_)
      show mm_Runs L xs (d + 1) 143 (171, [some (.ref 42), some (.long (0 : Int64)), none, some (.int (0 : Int32)), some (.ref (mm_tab t4)), some (.int v5), some (.int r1)], [], M5) o
      refine mm_Runs.seq (l := [(171, .iinc 5 1, 3), (174, .goto (-154), 3)]) (S2 := (20, [some (.ref 42), some (.long (0 : Int64)), none, some (.int (0 : Int32)), some (.ref (mm_tab t4)), some (.int (v5 + (1 : Int32))), some (.int r1)], [], M5)) (by decide +kernel) (hO := mm_own_143) rfl ?_
      cases h
      exact (show mp_143_20 L xs (d + 1) (0 : Int64) (0 : Int32) t4 (v5 + (1 : Int32)) M5 o from hA) none (some (.int r1))
noncomputable def mf_143_j64 (v1 : Int64) (v3 : Int32) (v5 : Int32) (v6 : Int32) (s0 : Int32) (M : mm_M) : mm_O ((Int64 × Int32 × Nat × Int32) ⊕ ((Unit) ⊕ (Unit))) := mm_B (mf_27 s0 M) (fun _ M1 => if mm_in v6 1601 then if mm_in (M1.1 45 v6.toNatClampNeg) 6 then mf_143_j81 v1 v3 (M1.1 45 v6.toNatClampNeg).toNatClampNeg v5 M1 else none else none)
set_option maxRecDepth 8000 in
set_option maxHeartbeats 4000000 in
theorem ms_143_j64 {L : Nat} {xs : Nat → Int32} {d : Nat} (hd : 9 ≤ d) {v1 : Int64} {v3 : Int32} {v5 : Int32} {v6 : Int32} {s0 : Int32} {M : mm_M} {q : (((Int64 × Int32 × Nat × Int32) ⊕ ((Unit) ⊕ (Unit))) ⊕ Nat) × mm_M} {o : mm_E} (h : mf_143_j64 v1 v3 v5 v6 s0 M = some q) (hA : mm_A (mm_K2 (fun s M o => mp_143_20 L xs (d) s.1 s.2.1 s.2.2.1 s.2.2.2 M o) (fun r M o => mm_sm (fun r => mp_143_148 L xs (d) M o) (fun r => mp_143_177 L xs (d) M o) r)) q o) : mp_143_64 L xs d v1 v3 v5 v6 s0 M o := by
  unfold mf_143_j64 at h
  obtain ⟨d, rfl⟩ := mm_d1 (n := 8) hd
  intro z2 z4
  show mm_Runs L xs (d + 1) 143 (64, [some (.ref 42), some (.long v1), z2, some (.int v3), z4, some (.int v5), some (.int v6)], [.int s0], M) o
  refine mm_R_call (v := mm_wv) h hA (k2 := 27) (as := [.int s0]) (r := []) rfl (fun _ => rfl) (fun q hq o ho => ms_27 (by omega) hq ho) (fun _ M1 h => ?_)
  show mm_Runs L xs (d + 1) 143 (67, [some (.ref 42), some (.long v1), z2, some (.int v3), z4, some (.int v5), some (.int v6)], [], M1) o
  refine mm_Runs.seq (l := [(67, .aload_n 0, 1), (68, .getfield 13, 3), (71, .aload_n 0, 1), (72, .getfield 21, 3), (75, .iload 6, 2)]) (S2 := (77, [some (.ref 42), some (.long v1), z2, some (.int v3), z4, some (.int v5), some (.int v6)], [.int v6, .ref 45, .ref 43], M1)) (by decide +kernel) (hO := mm_own_143) rfl ?_
  obtain ⟨hb, h⟩ := mm_gd h
  refine mm_R_iald rfl rfl hb ?_
  obtain ⟨hb, h⟩ := mm_gd h
  refine mm_R_aald rfl rfl hb ?_
  refine mm_Runs.seq (l := [(79, .astore 4, 2)]) (S2 := (81, [some (.ref 42), some (.long v1), z2, some (.int v3), some (.ref (mm_tab (M1.1 45 v6.toNatClampNeg).toNatClampNeg)), some (.int v5), some (.int v6)], [], M1)) (by decide +kernel) (hO := mm_own_143) rfl ?_
  exact (ms_143_j81 hd h hA : mp_143_81 L xs (d + 1) v1 v3 (M1.1 45 v6.toNatClampNeg).toNatClampNeg v5 M1 o) z2 (some (.int v6))
noncomputable def mf_143_b20 (v1 : Int64) (v3 : Int32) (t4 : Nat) (v5 : Int32) (M : mm_M) : mm_O ((Int64 × Int32 × Nat × Int32) ⊕ ((Unit) ⊕ (Unit))) := if v5 < (1000000 : Int32) then (if (mm_rem v5 (50 : Int32)) = 0 then (if (v5 / (50 : Int32)) < (M.1 42 7) then (if (v5 / (50 : Int32)) < (1601 : Int32) then (mf_143_j64 v1 v3 v5 (v5 / (50 : Int32)) (0 : Int32) M) else (mf_143_j64 v1 v3 v5 (v5 / (50 : Int32)) (1 : Int32) M)) else (mf_143_j64 v1 v3 v5 (v5 / (50 : Int32)) (1 : Int32) M)) else (mf_143_j81 v1 v3 t4 v5 M)) else (some (.inl (.inr (.inr ())), M))
noncomputable def mf_143_L20 (s : Int64 × Int32 × Nat × Int32) (M : mm_M) : mm_O ((Unit) ⊕ (Unit)) := mm_L (fun s M => mf_143_b20 s.1 s.2.1 s.2.2.1 s.2.2.2 M) s M
set_option maxRecDepth 8000 in
set_option maxHeartbeats 4000000 in
theorem ms_143_b20 {L : Nat} {xs : Nat → Int32} {d : Nat} (hd : 9 ≤ d) {v1 : Int64} {v3 : Int32} {t4 : Nat} {v5 : Int32} {M : mm_M} {q : (((Int64 × Int32 × Nat × Int32) ⊕ ((Unit) ⊕ (Unit))) ⊕ Nat) × mm_M} {o : mm_E} (h : mf_143_b20 v1 v3 t4 v5 M = some q) (hA : mm_A (mm_K2 (fun s M o => mp_143_20 L xs (d) s.1 s.2.1 s.2.2.1 s.2.2.2 M o) (fun r M o => mm_sm (fun r => mp_143_148 L xs (d) M o) (fun r => mp_143_177 L xs (d) M o) r)) q o) : mp_143_20 L xs d v1 v3 t4 v5 M o := by
  unfold mf_143_b20 at h
  obtain ⟨d, rfl⟩ := mm_d1 (n := 8) hd
  intro z2 z6
  show mm_Runs L xs (d + 1) 143 (20, [some (.ref 42), some (.long v1), z2, some (.int v3), some (.ref (mm_tab t4)), some (.int v5), z6], [], M) o
  refine mm_Runs.seq (l := [(20, .iload 5, 2), (22, .ldc 69, 2)]) (S2 := (24, [some (.ref 42), some (.long v1), z2, some (.int v3), some (.ref (mm_tab t4)), some (.int v5), z6], [.int (1000000 : Int32), .int v5], M)) (by decide +kernel) (hO := mm_own_143) rfl ?_
  refine mm_R_ige (t := 177) rfl rfl rfl (fun hc => ?_) (fun hc => ?_)
  · replace h := mm_ip hc h
    refine mm_Runs.seq (l := [(27, .iload 5, 2), (29, .bipush 50, 2), (31, .irem, 1)]) (S2 := (32, [some (.ref 42), some (.long v1), z2, some (.int v3), some (.ref (mm_tab t4)), some (.int v5), z6], [.int (mm_rem v5 (50 : Int32))], M)) (by decide +kernel) (hO := mm_own_143) rfl ?_
    refine mm_R_zne (t := 81) rfl rfl rfl (fun hc => ?_) (fun hc => ?_)
    · replace h := mm_ip hc h
      refine mm_Runs.seq (l := [(35, .iload 5, 2), (37, .bipush 50, 2), (39, .idiv, 1), (40, .istore 6, 2), (42, .iload 6, 2), (44, .aload_n 0, 1), (45, .getfield 128, 3)]) (S2 := (48, [some (.ref 42), some (.long v1), z2, some (.int v3), some (.ref (mm_tab t4)), some (.int v5), some (.int (v5 / (50 : Int32)))], [.int (M.1 42 7), .int (v5 / (50 : Int32))], M)) (by decide +kernel) (hO := mm_own_143) rfl ?_
      refine mm_R_ige (t := 59) rfl rfl rfl (fun hc => ?_) (fun hc => ?_)
      · replace h := mm_ip hc h
        refine mm_Runs.seq (l := [(51, .iload 6, 2), (53, .sipush 1601, 3)]) (S2 := (56, [some (.ref 42), some (.long v1), z2, some (.int v3), some (.ref (mm_tab t4)), some (.int v5), some (.int (v5 / (50 : Int32)))], [.int (1601 : Int32), .int (v5 / (50 : Int32))], M)) (by decide +kernel) (hO := mm_own_143) rfl ?_
        refine mm_R_ilt (t := 63) rfl rfl rfl (fun hc => ?_) (fun hc => ?_)
        · replace h := mm_ip hc h
          refine mm_Runs.seq (l := [(63, .iconst 0, 1)]) (S2 := (64, [some (.ref 42), some (.long v1), z2, some (.int v3), some (.ref (mm_tab t4)), some (.int v5), some (.int (v5 / (50 : Int32)))], [.int (0 : Int32)], M)) (by decide +kernel) (hO := mm_own_143) rfl ?_
          exact (ms_143_j64 hd h hA : mp_143_64 L xs (d + 1) v1 v3 v5 (v5 / (50 : Int32)) (0 : Int32) M o) z2 (some (.ref (mm_tab t4)))
        · replace h := mm_iq hc h
          refine mm_Runs.seq (l := [(59, .iconst 1, 1), (60, .goto 4, 3)]) (S2 := (64, [some (.ref 42), some (.long v1), z2, some (.int v3), some (.ref (mm_tab t4)), some (.int v5), some (.int (v5 / (50 : Int32)))], [.int (1 : Int32)], M)) (by decide +kernel) (hO := mm_own_143) rfl ?_
          exact (ms_143_j64 hd h hA : mp_143_64 L xs (d + 1) v1 v3 v5 (v5 / (50 : Int32)) (1 : Int32) M o) z2 (some (.ref (mm_tab t4)))
      · replace h := mm_iq hc h
        refine mm_Runs.seq (l := [(59, .iconst 1, 1), (60, .goto 4, 3)]) (S2 := (64, [some (.ref 42), some (.long v1), z2, some (.int v3), some (.ref (mm_tab t4)), some (.int v5), some (.int (v5 / (50 : Int32)))], [.int (1 : Int32)], M)) (by decide +kernel) (hO := mm_own_143) rfl ?_
        exact (ms_143_j64 hd h hA : mp_143_64 L xs (d + 1) v1 v3 v5 (v5 / (50 : Int32)) (1 : Int32) M o) z2 (some (.ref (mm_tab t4)))
    · replace h := mm_iq hc h
      exact (ms_143_j81 hd h hA : mp_143_81 L xs (d + 1) v1 v3 t4 v5 M o) z2 z6
  · replace h := mm_iq hc h
    cases h
    exact (show mp_143_177 L xs (d + 1) M o from hA) (some (.ref 42)) (some (.long v1)) z2 (some (.int v3)) (some (.ref (mm_tab t4))) (some (.int v5)) z6
theorem ms_143_L20 {L : Nat} {xs : Nat → Int32} {d : Nat} (hd : 9 ≤ d) {v1 : Int64} {v3 : Int32} {t4 : Nat} {v5 : Int32} {β : Type} {K : β → mm_M → mm_E → Prop} {F : ((Unit) ⊕ (Unit)) → mm_M → mm_O β} {M : mm_M} {q : (β ⊕ Nat) × mm_M} {o : mm_E} (h : mm_B (mf_143_L20 (v1, v3, t4, v5) M) F = some q) (hA : mm_A K q o) (hx : ∀ (r : ((Unit) ⊕ (Unit))) (M2 : mm_M), F r M2 = some q → (fun r M o => mm_sm (fun r => mp_143_148 L xs (d) M o) (fun r => mp_143_177 L xs (d) M o) r) r M2 o) : mp_143_20 L xs d v1 v3 t4 v5 M o := mm_R_loop (s := (v1, v3, t4, v5)) (M := M) (P := (fun s M o => mp_143_20 L xs (d) s.1 s.2.1 s.2.2.1 s.2.2.2 M o)) (X := (fun r M o => mm_sm (fun r => mp_143_148 L xs (d) M o) (fun r => mp_143_177 L xs (d) M o) r)) h hA (fun s M q hq hA => ms_143_b20 hd hq hA) hx
noncomputable def mf_143 (M : mm_M) : mm_O Unit := if mm_in (0 : Int32) 6 then mm_B (mf_143_L20 ((0 : Int64), (0 : Int32), (0 : Int32).toNatClampNeg, (0 : Int32)) (mm_pi M 42 12 (0 : Int32))) (fun r2 M1 => mm_sm (fun r2 => some (.inl (), M1)) (fun r2 => some (.inl (), M1)) r2) else none
set_option maxRecDepth 8000 in
set_option maxHeartbeats 4000000 in
theorem ms_143 {L : Nat} {xs : Nat → Int32} {d : Nat} (hd : 9 ≤ d) {M : mm_M} {q : (Unit ⊕ Nat) × mm_M} {o : mm_E} (h : mf_143 M = some q) (hA : mm_A (mm_Kr mm_wv) q o) : mm_Runs L xs d 143 (0, mm_ent (mm_ml 143) [.ref 42], [], M) o := by
  unfold mf_143 at h
  obtain ⟨d, rfl⟩ := mm_d1 (n := 8) hd
  show mm_Runs L xs (d + 1) 143 (0, [some (.ref 42), none, none, none, none, none, none], [], M) o
  refine mm_Runs.seq (l := [(0, .aload_n 0, 1), (1, .iconst 0, 1), (2, .putfield 124, 3), (5, .lconst 0, 1), (6, .lstore_n 1, 1), (7, .iconst 0, 1), (8, .istore_n 3, 1), (9, .aload_n 0, 1), (10, .getfield 13, 3), (13, .iconst 0, 1)]) (S2 := (14, [some (.ref 42), some (.long (0 : Int64)), none, some (.int (0 : Int32)), none, none, none], [.int (0 : Int32), .ref 43], (mm_pi M 42 12 (0 : Int32)))) (by decide +kernel) (hO := mm_own_143) rfl ?_
  obtain ⟨hb, h⟩ := mm_gd h
  refine mm_R_aald rfl rfl hb ?_
  refine mm_Runs.seq (l := [(15, .astore 4, 2), (17, .iconst 0, 1), (18, .istore 5, 2)]) (S2 := (20, [some (.ref 42), some (.long (0 : Int64)), none, some (.int (0 : Int32)), some (.ref (mm_tab (0 : Int32).toNatClampNeg)), some (.int (0 : Int32)), none], [], (mm_pi M 42 12 (0 : Int32)))) (by decide +kernel) (hO := mm_own_143) rfl ?_
  have hp : mp_143_20 L xs (d + 1) (0 : Int64) (0 : Int32) (0 : Int32).toNatClampNeg (0 : Int32) (mm_pi M 42 12 (0 : Int32)) o := by
    refine ms_143_L20 hd h hA (fun r2 M1 h => ?_)
    rcases r2 with r2 | r2
    · dsimp only [mm_sm] at h
      intro y3 y4 y5 y6 y7 y8 y9
      show mm_Runs L xs (d + 1) 143 (148, [y3, y4, y5, y6, y7, y8, y9], [], M1) o
      cases h
      exact mm_R_retv rfl rfl hA
    · dsimp only [mm_sm] at h
      intro y10 y11 y12 y13 y14 y15 y16
      show mm_Runs L xs (d + 1) 143 (177, [y10, y11, y12, y13, y14, y15, y16], [], M1) o
      cases h
      exact mm_R_retv rfl rfl hA
  exact hp none none
-- 138: PlainPacks$Sorted.readBlock()V (depth 10)
theorem mm_own_138 : mm_own 138 = 10 := rfl
def mp_138_15 (L : Nat) (xs : Nat → Int32) (d : Nat) (s0 : Int32) (M : mm_M) (o : mm_E) : Prop := ∀ z1 z2 : Option Value, mm_Runs L xs d 138 (15, [some (.ref 42), z1, z2], [.int s0], M) o
def mp_138_62 (L : Nat) (xs : Nat → Int32) (d : Nat) (v1 : Int32) (s0 : Int32) (M : mm_M) (o : mm_E) : Prop := ∀ z2 : Option Value, mm_Runs L xs d 138 (62, [some (.ref 42), some (.int v1), z2], [.int s0], M) o
def mp_138_72 (L : Nat) (xs : Nat → Int32) (d : Nat) (v1 : Int32) (v2 : Int32) (M : mm_M) (o : mm_E) : Prop := mm_Runs L xs d 138 (72, [some (.ref 42), some (.int v1), some (.int v2)], [], M) o
def mp_138_93 (L : Nat) (xs : Nat → Int32) (d : Nat) (M : mm_M) (o : mm_E) : Prop := ∀ z1 z2 : Option Value, mm_Runs L xs d 138 (93, [some (.ref 42), z1, z2], [], M) o
noncomputable def mf_138_b72 (v1 : Int32) (v2 : Int32) (M : mm_M) : mm_O ((Int32) ⊕ (Unit)) := if v2 < v1 then (if mm_in v2 6 then if v2.toNatClampNeg < 6 then mm_B (mf_142 (mm_tab v2.toNatClampNeg) 258 M) (fun _ M1 => some (.inl (.inl (v2 + (1 : Int32))), M1)) else none else none) else (some (.inl (.inr ()), M))
noncomputable def mf_138_L72 (v1 : Int32) (s : Int32) (M : mm_M) : mm_O (Unit) := mm_L (fun s M => mf_138_b72 v1 s M) s M
set_option maxRecDepth 8000 in
set_option maxHeartbeats 4000000 in
theorem ms_138_b72 {L : Nat} {xs : Nat → Int32} {d : Nat} (hd : 10 ≤ d) {v1 : Int32} {v2 : Int32} {M : mm_M} {q : (((Int32) ⊕ (Unit)) ⊕ Nat) × mm_M} {o : mm_E} (h : mf_138_b72 v1 v2 M = some q) (hA : mm_A (mm_K2 (fun s M o => mp_138_72 L xs (d) v1 s M o) (fun r M o => mp_138_93 L xs (d) M o)) q o) : mp_138_72 L xs d v1 v2 M o := by
  unfold mf_138_b72 at h
  obtain ⟨d, rfl⟩ := mm_d1 (n := 9) hd
  show mm_Runs L xs (d + 1) 138 (72, [some (.ref 42), some (.int v1), some (.int v2)], [], M) o
  refine mm_Runs.seq (l := [(72, .iload_n 2, 1), (73, .iload_n 1, 1)]) (S2 := (74, [some (.ref 42), some (.int v1), some (.int v2)], [.int v1, .int v2], M)) (by decide +kernel) (hO := mm_own_138) rfl ?_
  refine mm_R_ige (t := 93) rfl rfl rfl (fun hc => ?_) (fun hc => ?_)
  · replace h := mm_ip hc h
    refine mm_Runs.seq (l := [(77, .aload_n 0, 1), (78, .aload_n 0, 1), (79, .getfield 13, 3), (82, .iload_n 2, 1)]) (S2 := (83, [some (.ref 42), some (.int v1), some (.int v2)], [.int v2, .ref 43, .ref 42], M)) (by decide +kernel) (hO := mm_own_138) rfl ?_
    obtain ⟨hb, h⟩ := mm_gd h
    refine mm_R_aald rfl rfl hb ?_
    obtain ⟨hg, h⟩ := mm_gd h
    refine mm_R_call (v := mm_wv) h hA (k2 := 142) (as := [.ref 42, .ref (mm_tab v2.toNatClampNeg)]) (r := []) rfl (fun _ => rfl) (fun q hq o ho => ms_142 (mm_isC_tab hg) (by omega) hq ho) (fun _ M1 h => ?_)
    show mm_Runs L xs (d + 1) 138 (87, [some (.ref 42), some (.int v1), some (.int v2)], [], M1) o
    refine mm_Runs.seq (l := [(87, .iinc 2 1, 3), (90, .goto (-18), 3)]) (S2 := (72, [some (.ref 42), some (.int v1), some (.int (v2 + (1 : Int32)))], [], M1)) (by decide +kernel) (hO := mm_own_138) rfl ?_
    cases h
    exact (show mp_138_72 L xs (d + 1) v1 (v2 + (1 : Int32)) M1 o from hA)
  · replace h := mm_iq hc h
    cases h
    exact (show mp_138_93 L xs (d + 1) M o from hA) (some (.int v1)) (some (.int v2))
theorem ms_138_L72 {L : Nat} {xs : Nat → Int32} {d : Nat} (hd : 10 ≤ d) {v1 : Int32} {v2 : Int32} {β : Type} {K : β → mm_M → mm_E → Prop} {F : (Unit) → mm_M → mm_O β} {M : mm_M} {q : (β ⊕ Nat) × mm_M} {o : mm_E} (h : mm_B (mf_138_L72 v1 v2 M) F = some q) (hA : mm_A K q o) (hx : ∀ (r : (Unit)) (M2 : mm_M), F r M2 = some q → (fun r M o => mp_138_93 L xs (d) M o) r M2 o) : mp_138_72 L xs d v1 v2 M o := mm_R_loop (s := v2) (M := M) (P := (fun s M o => mp_138_72 L xs (d) v1 s M o)) (X := (fun r M o => mp_138_93 L xs (d) M o)) h hA (fun s M q hq hA => ms_138_b72 hd hq hA) hx
def mp_138_113 (L : Nat) (xs : Nat → Int32) (d : Nat) (s0 : Int32) (M : mm_M) (o : mm_E) : Prop := ∀ z0 z1 z2 : Option Value, mm_Runs L xs d 138 (113, [z0, z1, z2], [.int s0], M) o
noncomputable def mf_138_j113 (s0 : Int32) (M : mm_M) : mm_O Unit := mm_B (mf_27 s0 M) (fun _ M1 => some (.inl (), M1))
set_option maxRecDepth 8000 in
set_option maxHeartbeats 4000000 in
theorem ms_138_j113 {L : Nat} {xs : Nat → Int32} {d : Nat} (hd : 10 ≤ d) {s0 : Int32} {M : mm_M} {q : (Unit ⊕ Nat) × mm_M} {o : mm_E} (h : mf_138_j113 s0 M = some q) (hA : mm_A (mm_Kr mm_wv) q o) : mp_138_113 L xs d s0 M o := by
  unfold mf_138_j113 at h
  obtain ⟨d, rfl⟩ := mm_d1 (n := 9) hd
  intro z0 z1 z2
  show mm_Runs L xs (d + 1) 138 (113, [z0, z1, z2], [.int s0], M) o
  refine mm_R_call (v := mm_wv) h hA (k2 := 27) (as := [.int s0]) (r := []) rfl (fun _ => rfl) (fun q hq o ho => ms_27 (by omega) hq ho) (fun _ M1 h => ?_)
  show mm_Runs L xs (d + 1) 138 (116, [z0, z1, z2], [], M1) o
  cases h
  exact mm_R_retv rfl rfl hA
noncomputable def mf_138_j93 (M : mm_M) : mm_O Unit := mm_B (mf_143 M) (fun _ M1 => if (M1.1 42 10) < (M1.1 42 12) then (mf_138_j113 (0 : Int32) M1) else (mf_138_j113 (1 : Int32) M1))
set_option maxRecDepth 8000 in
set_option maxHeartbeats 4000000 in
theorem ms_138_j93 {L : Nat} {xs : Nat → Int32} {d : Nat} (hd : 10 ≤ d) {M : mm_M} {q : (Unit ⊕ Nat) × mm_M} {o : mm_E} (h : mf_138_j93 M = some q) (hA : mm_A (mm_Kr mm_wv) q o) : mp_138_93 L xs d M o := by
  unfold mf_138_j93 at h
  obtain ⟨d, rfl⟩ := mm_d1 (n := 9) hd
  intro z1 z2
  show mm_Runs L xs (d + 1) 138 (93, [some (.ref 42), z1, z2], [], M) o
  refine mm_Runs.seq (l := [(93, .aload_n 0, 1)]) (S2 := (94, [some (.ref 42), z1, z2], [.ref 42], M)) (by decide +kernel) (hO := mm_own_138) rfl ?_
  refine mm_R_call (v := mm_wv) h hA (k2 := 143) (as := [.ref 42]) (r := []) rfl (fun _ => rfl) (fun q hq o ho => ms_143 (by omega) hq ho) (fun _ M1 h => ?_)
  show mm_Runs L xs (d + 1) 138 (97, [some (.ref 42), z1, z2], [], M1) o
  refine mm_Runs.seq (l := [(97, .aload_n 0, 1), (98, .getfield 108, 3), (101, .aload_n 0, 1), (102, .getfield 124, 3)]) (S2 := (105, [some (.ref 42), z1, z2], [.int (M1.1 42 12), .int (M1.1 42 10)], M1)) (by decide +kernel) (hO := mm_own_138) rfl ?_
  refine mm_R_ilt (t := 112) rfl rfl rfl (fun hc => ?_) (fun hc => ?_)
  · replace h := mm_ip hc h
    refine mm_Runs.seq (l := [(112, .iconst 0, 1)]) (S2 := (113, [some (.ref 42), z1, z2], [.int (0 : Int32)], M1)) (by decide +kernel) (hO := mm_own_138) rfl ?_
    exact (ms_138_j113 hd h hA : mp_138_113 L xs (d + 1) (0 : Int32) M1 o) (some (.ref 42)) z1 z2
  · replace h := mm_iq hc h
    refine mm_Runs.seq (l := [(108, .iconst 1, 1), (109, .goto 4, 3)]) (S2 := (113, [some (.ref 42), z1, z2], [.int (1 : Int32)], M1)) (by decide +kernel) (hO := mm_own_138) rfl ?_
    exact (ms_138_j113 hd h hA : mp_138_113 L xs (d + 1) (1 : Int32) M1 o) (some (.ref 42)) z1 z2
noncomputable def mf_138_j62 (v1 : Int32) (s0 : Int32) (M : mm_M) : mm_O Unit := mm_B (mf_27 s0 M) (fun _ M1 => mm_B (mf_140 v1 M1) (fun _ M2 => mm_B (mf_138_L72 v1 (0 : Int32) M2) (fun r4 M3 => mf_138_j93 M3)))
set_option maxRecDepth 8000 in
set_option maxHeartbeats 4000000 in
theorem ms_138_j62 {L : Nat} {xs : Nat → Int32} {d : Nat} (hd : 10 ≤ d) {v1 : Int32} {s0 : Int32} {M : mm_M} {q : (Unit ⊕ Nat) × mm_M} {o : mm_E} (h : mf_138_j62 v1 s0 M = some q) (hA : mm_A (mm_Kr mm_wv) q o) : mp_138_62 L xs d v1 s0 M o := by
  unfold mf_138_j62 at h
  obtain ⟨d, rfl⟩ := mm_d1 (n := 9) hd
  intro z2
  show mm_Runs L xs (d + 1) 138 (62, [some (.ref 42), some (.int v1), z2], [.int s0], M) o
  refine mm_R_call (v := mm_wv) h hA (k2 := 27) (as := [.int s0]) (r := []) rfl (fun _ => rfl) (fun q hq o ho => ms_27 (by omega) hq ho) (fun _ M1 h => ?_)
  show mm_Runs L xs (d + 1) 138 (65, [some (.ref 42), some (.int v1), z2], [], M1) o
  refine mm_Runs.seq (l := [(65, .aload_n 0, 1), (66, .iload_n 1, 1)]) (S2 := (67, [some (.ref 42), some (.int v1), z2], [.int v1, .ref 42], M1)) (by decide +kernel) (hO := mm_own_138) rfl ?_
  refine mm_R_call (v := mm_wv) h hA (k2 := 140) (as := [.ref 42, .int v1]) (r := []) rfl (fun _ => rfl) (fun q hq o ho => ms_140 (by omega) hq ho) (fun _ M2 h => ?_)
  show mm_Runs L xs (d + 1) 138 (70, [some (.ref 42), some (.int v1), z2], [], M2) o
  refine mm_Runs.seq (l := [(70, .iconst 0, 1), (71, .istore_n 2, 1)]) (S2 := (72, [some (.ref 42), some (.int v1), some (.int (0 : Int32))], [], M2)) (by decide +kernel) (hO := mm_own_138) rfl ?_
  have hp : mp_138_72 L xs (d + 1) v1 (0 : Int32) M2 o := by
    refine ms_138_L72 hd h hA (fun r4 M3 h => ?_)
    intro y5 y6
    show mm_Runs L xs (d + 1) 138 (93, [some (.ref 42), y5, y6], [], M3) o
    exact (ms_138_j93 hd h hA : mp_138_93 L xs (d + 1) M3 o) y5 y6
  exact hp
noncomputable def mf_138_j15 (s0 : Int32) (M : mm_M) : mm_O Unit := mm_B (mf_27 s0 M) (fun _ M1 => mm_B (mf_46 (24 : Int32) M1) (fun r2 M3 => mm_B (mf_139 (mm_pi M3 42 10 r2.toInt32)) (fun _ M4 => mm_B (mf_46 (3 : Int32) M4) (fun r5 M6 => if r5.toInt32 < (2 : Int32) then (mf_138_j62 r5.toInt32 (1 : Int32) M6) else (if (6 : Int32) < r5.toInt32 then (mf_138_j62 r5.toInt32 (1 : Int32) M6) else (mf_138_j62 r5.toInt32 (0 : Int32) M6))))))
set_option maxRecDepth 8000 in
set_option maxHeartbeats 4000000 in
theorem ms_138_j15 {L : Nat} {xs : Nat → Int32} {d : Nat} (hd : 10 ≤ d) {s0 : Int32} {M : mm_M} {q : (Unit ⊕ Nat) × mm_M} {o : mm_E} (h : mf_138_j15 s0 M = some q) (hA : mm_A (mm_Kr mm_wv) q o) : mp_138_15 L xs d s0 M o := by
  unfold mf_138_j15 at h
  obtain ⟨d, rfl⟩ := mm_d1 (n := 9) hd
  intro z1 z2
  show mm_Runs L xs (d + 1) 138 (15, [some (.ref 42), z1, z2], [.int s0], M) o
  refine mm_R_call (v := mm_wv) h hA (k2 := 27) (as := [.int s0]) (r := []) rfl (fun _ => rfl) (fun q hq o ho => ms_27 (by omega) hq ho) (fun _ M1 h => ?_)
  show mm_Runs L xs (d + 1) 138 (18, [some (.ref 42), z1, z2], [], M1) o
  refine mm_Runs.seq (l := [(18, .aload_n 0, 1), (19, .aload_n 0, 1), (20, .getfield 36, 3), (23, .bipush 24, 2)]) (S2 := (25, [some (.ref 42), z1, z2], [.int (24 : Int32), .ref 1, .ref 42], M1)) (by decide +kernel) (hO := mm_own_138) rfl ?_
  refine mm_R_call (v := mm_wl) h hA (k2 := 46) (as := [.ref 1, .int (24 : Int32)]) (r := [.ref 42]) rfl (fun _ => rfl) (fun q hq o ho => ms_46 (by omega) hq ho) (fun r2 M3 h => ?_)
  show mm_Runs L xs (d + 1) 138 (28, [some (.ref 42), z1, z2], [.long r2, .ref 42], M3) o
  refine mm_Runs.seq (l := [(28, .l2i, 1), (29, .putfield 108, 3), (32, .aload_n 0, 1)]) (S2 := (33, [some (.ref 42), z1, z2], [.ref 42], (mm_pi M3 42 10 r2.toInt32))) (by decide +kernel) (hO := mm_own_138) rfl ?_
  refine mm_R_call (v := mm_wv) h hA (k2 := 139) (as := [.ref 42]) (r := []) rfl (fun _ => rfl) (fun q hq o ho => ms_139 (by omega) hq ho) (fun _ M4 h => ?_)
  show mm_Runs L xs (d + 1) 138 (36, [some (.ref 42), z1, z2], [], M4) o
  refine mm_Runs.seq (l := [(36, .aload_n 0, 1), (37, .getfield 36, 3), (40, .iconst 3, 1)]) (S2 := (41, [some (.ref 42), z1, z2], [.int (3 : Int32), .ref 1], M4)) (by decide +kernel) (hO := mm_own_138) rfl ?_
  refine mm_R_call (v := mm_wl) h hA (k2 := 46) (as := [.ref 1, .int (3 : Int32)]) (r := []) rfl (fun _ => rfl) (fun q hq o ho => ms_46 (by omega) hq ho) (fun r5 M6 h => ?_)
  show mm_Runs L xs (d + 1) 138 (44, [some (.ref 42), z1, z2], [.long r5], M6) o
  refine mm_Runs.seq (l := [(44, .l2i, 1), (45, .istore_n 1, 1), (46, .iload_n 1, 1), (47, .iconst 2, 1)]) (S2 := (48, [some (.ref 42), some (.int r5.toInt32), z2], [.int (2 : Int32), .int r5.toInt32], M6)) (by decide +kernel) (hO := mm_own_138) rfl ?_
  refine mm_R_ilt (t := 57) rfl rfl rfl (fun hc => ?_) (fun hc => ?_)
  · replace h := mm_ip hc h
    refine mm_Runs.seq (l := [(57, .iconst 1, 1), (58, .goto 4, 3)]) (S2 := (62, [some (.ref 42), some (.int r5.toInt32), z2], [.int (1 : Int32)], M6)) (by decide +kernel) (hO := mm_own_138) rfl ?_
    exact (ms_138_j62 hd h hA : mp_138_62 L xs (d + 1) r5.toInt32 (1 : Int32) M6 o) z2
  · replace h := mm_iq hc h
    refine mm_Runs.seq (l := [(51, .iload_n 1, 1), (52, .bipush 6, 2)]) (S2 := (54, [some (.ref 42), some (.int r5.toInt32), z2], [.int (6 : Int32), .int r5.toInt32], M6)) (by decide +kernel) (hO := mm_own_138) rfl ?_
    refine mm_R_ile (t := 61) rfl rfl rfl (fun hc => ?_) (fun hc => ?_)
    · replace h := mm_ip hc h
      refine mm_Runs.seq (l := [(57, .iconst 1, 1), (58, .goto 4, 3)]) (S2 := (62, [some (.ref 42), some (.int r5.toInt32), z2], [.int (1 : Int32)], M6)) (by decide +kernel) (hO := mm_own_138) rfl ?_
      exact (ms_138_j62 hd h hA : mp_138_62 L xs (d + 1) r5.toInt32 (1 : Int32) M6 o) z2
    · replace h := mm_iq hc h
      refine mm_Runs.seq (l := [(61, .iconst 0, 1)]) (S2 := (62, [some (.ref 42), some (.int r5.toInt32), z2], [.int (0 : Int32)], M6)) (by decide +kernel) (hO := mm_own_138) rfl ?_
      exact (ms_138_j62 hd h hA : mp_138_62 L xs (d + 1) r5.toInt32 (0 : Int32) M6 o) z2
noncomputable def mf_138 (M : mm_M) : mm_O Unit := mm_B (mf_45 M) (fun r1 M2 => if r1 = 0 then (mf_138_j15 (0 : Int32) M2) else (mf_138_j15 (1 : Int32) M2))
set_option maxRecDepth 8000 in
set_option maxHeartbeats 4000000 in
theorem ms_138 {L : Nat} {xs : Nat → Int32} {d : Nat} (hd : 10 ≤ d) {M : mm_M} {q : (Unit ⊕ Nat) × mm_M} {o : mm_E} (h : mf_138 M = some q) (hA : mm_A (mm_Kr mm_wv) q o) : mm_Runs L xs d 138 (0, mm_ent (mm_ml 138) [.ref 42], [], M) o := by
  unfold mf_138 at h
  obtain ⟨d, rfl⟩ := mm_d1 (n := 9) hd
  show mm_Runs L xs (d + 1) 138 (0, [some (.ref 42), none, none], [], M) o
  refine mm_Runs.seq (l := [(0, .aload_n 0, 1), (1, .getfield 36, 3)]) (S2 := (4, [some (.ref 42), none, none], [.ref 1], M)) (by decide +kernel) (hO := mm_own_138) rfl ?_
  refine mm_R_call (v := mm_wi) h hA (k2 := 45) (as := [.ref 1]) (r := []) rfl (fun _ => rfl) (fun q hq o ho => ms_45 (by omega) hq ho) (fun r1 M2 h => ?_)
  show mm_Runs L xs (d + 1) 138 (7, [some (.ref 42), none, none], [.int r1], M2) o
  refine mm_R_zeq (t := 14) rfl rfl rfl (fun hc => ?_) (fun hc => ?_)
  · replace h := mm_ip hc h
    refine mm_Runs.seq (l := [(14, .iconst 0, 1)]) (S2 := (15, [some (.ref 42), none, none], [.int (0 : Int32)], M2)) (by decide +kernel) (hO := mm_own_138) rfl ?_
    exact (ms_138_j15 hd h hA : mp_138_15 L xs (d + 1) (0 : Int32) M2 o) none none
  · replace h := mm_iq hc h
    refine mm_Runs.seq (l := [(10, .iconst 1, 1), (11, .goto 4, 3)]) (S2 := (15, [some (.ref 42), none, none], [.int (1 : Int32)], M2)) (by decide +kernel) (hO := mm_own_138) rfl ?_
    exact (ms_138_j15 hd h hA : mp_138_15 L xs (d + 1) (1 : Int32) M2 o) none none
-- 145: PlainPacks$Sorted.sortSteps()V (depth 1)
theorem mm_own_145 : mm_own 145 = 10 := rfl
def mp_145_10 (L : Nat) (xs : Nat → Int32) (d : Nat) (v1 : Int32) (M : mm_M) (o : mm_E) : Prop := ∀ z2 : Option Value, mm_Runs L xs d 145 (10, [some (.ref 42), some (.int v1), z2], [], M) o
def mp_145_41 (L : Nat) (xs : Nat → Int32) (d : Nat) (M : mm_M) (o : mm_E) : Prop := ∀ z1 z2 : Option Value, mm_Runs L xs d 145 (41, [some (.ref 42), z1, z2], [], M) o
noncomputable def mf_145_b10 (v1 : Int32) (M : mm_M) : mm_O ((Int32) ⊕ (Unit)) := if v1 < (M.1 42 12) then (if mm_in v1 16384 then if mm_in ((M.1 47 v1.toNatClampNeg) + (1 : Int32)) 257 then if mm_in ((M.1 47 v1.toNatClampNeg) + (1 : Int32)) 257 then some (.inl (.inl (v1 + (1 : Int32))), (mm_pi M 49 ((M.1 47 v1.toNatClampNeg) + (1 : Int32)).toNatClampNeg ((M.1 49 ((M.1 47 v1.toNatClampNeg) + (1 : Int32)).toNatClampNeg) + (1 : Int32)))) else none else none else none) else (some (.inl (.inr ()), M))
noncomputable def mf_145_L10 (s : Int32) (M : mm_M) : mm_O (Unit) := mm_L (fun s M => mf_145_b10 s M) s M
set_option maxRecDepth 8000 in
set_option maxHeartbeats 4000000 in
theorem ms_145_b10 {L : Nat} {xs : Nat → Int32} {d : Nat} (hd : 1 ≤ d) {v1 : Int32} {M : mm_M} {q : (((Int32) ⊕ (Unit)) ⊕ Nat) × mm_M} {o : mm_E} (h : mf_145_b10 v1 M = some q) (hA : mm_A (mm_K2 (fun s M o => mp_145_10 L xs (d) s M o) (fun r M o => mp_145_41 L xs (d) M o)) q o) : mp_145_10 L xs d v1 M o := by
  unfold mf_145_b10 at h
  obtain ⟨d, rfl⟩ := mm_d1 (n := 0) hd
  intro z2
  show mm_Runs L xs (d + 1) 145 (10, [some (.ref 42), some (.int v1), z2], [], M) o
  refine mm_Runs.seq (l := [(10, .iload_n 1, 1), (11, .aload_n 0, 1), (12, .getfield 124, 3)]) (S2 := (15, [some (.ref 42), some (.int v1), z2], [.int (M.1 42 12), .int v1], M)) (by decide +kernel) (hO := mm_own_145) rfl ?_
  refine mm_R_ige (t := 41) rfl rfl rfl (fun hc => ?_) (fun hc => ?_)
  · replace h := mm_ip hc h
    refine mm_Runs.seq (l := [(18, .aload_n 0, 1), (19, .getfield 33, 3), (22, .aload_n 0, 1), (23, .getfield 27, 3), (26, .iload_n 1, 1)]) (S2 := (27, [some (.ref 42), some (.int v1), z2], [.int v1, .ref 47, .ref 49], M)) (by decide +kernel) (hO := mm_own_145) rfl ?_
    obtain ⟨hb, h⟩ := mm_gd h
    refine mm_R_iald rfl rfl hb ?_
    refine mm_Runs.seq (l := [(28, .iconst 1, 1), (29, .iadd, 1), (30, .dup2, 1)]) (S2 := (31, [some (.ref 42), some (.int v1), z2], [.int ((M.1 47 v1.toNatClampNeg) + (1 : Int32)), .ref 49, .int ((M.1 47 v1.toNatClampNeg) + (1 : Int32)), .ref 49], M)) (by decide +kernel) (hO := mm_own_145) rfl ?_
    obtain ⟨hb, h⟩ := mm_gd h
    refine mm_R_iald rfl rfl hb ?_
    refine mm_Runs.seq (l := [(32, .iconst 1, 1), (33, .iadd, 1)]) (S2 := (34, [some (.ref 42), some (.int v1), z2], [.int ((M.1 49 ((M.1 47 v1.toNatClampNeg) + (1 : Int32)).toNatClampNeg) + (1 : Int32)), .int ((M.1 47 v1.toNatClampNeg) + (1 : Int32)), .ref 49], M)) (by decide +kernel) (hO := mm_own_145) rfl ?_
    obtain ⟨hb, h⟩ := mm_gd h
    refine mm_R_iast rfl rfl hb ?_
    refine mm_Runs.seq (l := [(35, .iinc 1 1, 3), (38, .goto (-28), 3)]) (S2 := (10, [some (.ref 42), some (.int (v1 + (1 : Int32))), z2], [], (mm_pi M 49 ((M.1 47 v1.toNatClampNeg) + (1 : Int32)).toNatClampNeg ((M.1 49 ((M.1 47 v1.toNatClampNeg) + (1 : Int32)).toNatClampNeg) + (1 : Int32))))) (by decide +kernel) (hO := mm_own_145) rfl ?_
    cases h
    exact (show mp_145_10 L xs (d + 1) (v1 + (1 : Int32)) (mm_pi M 49 ((M.1 47 v1.toNatClampNeg) + (1 : Int32)).toNatClampNeg ((M.1 49 ((M.1 47 v1.toNatClampNeg) + (1 : Int32)).toNatClampNeg) + (1 : Int32))) o from hA) z2
  · replace h := mm_iq hc h
    cases h
    exact (show mp_145_41 L xs (d + 1) M o from hA) (some (.int v1)) z2
theorem ms_145_L10 {L : Nat} {xs : Nat → Int32} {d : Nat} (hd : 1 ≤ d) {v1 : Int32} {β : Type} {K : β → mm_M → mm_E → Prop} {F : (Unit) → mm_M → mm_O β} {M : mm_M} {q : (β ⊕ Nat) × mm_M} {o : mm_E} (h : mm_B (mf_145_L10 v1 M) F = some q) (hA : mm_A K q o) (hx : ∀ (r : (Unit)) (M2 : mm_M), F r M2 = some q → (fun r M o => mp_145_41 L xs (d) M o) r M2 o) : mp_145_10 L xs d v1 M o := mm_R_loop (s := v1) (M := M) (P := (fun s M o => mp_145_10 L xs (d) s M o)) (X := (fun r M o => mp_145_41 L xs (d) M o)) h hA (fun s M q hq hA => ms_145_b10 hd hq hA) hx
def mp_145_43 (L : Nat) (xs : Nat → Int32) (d : Nat) (v1 : Int32) (M : mm_M) (o : mm_E) : Prop := ∀ z2 : Option Value, mm_Runs L xs d 145 (43, [some (.ref 42), some (.int v1), z2], [], M) o
def mp_145_75 (L : Nat) (xs : Nat → Int32) (d : Nat) (M : mm_M) (o : mm_E) : Prop := ∀ z1 z2 : Option Value, mm_Runs L xs d 145 (75, [some (.ref 42), z1, z2], [], M) o
noncomputable def mf_145_b43 (v1 : Int32) (M : mm_M) : mm_O ((Int32) ⊕ (Unit)) := if v1 < (257 : Int32) then (if mm_in v1 257 then if mm_in (v1 - (1 : Int32)) 257 then if mm_in v1 257 then some (.inl (.inl (v1 + (1 : Int32))), (mm_pi M 49 v1.toNatClampNeg ((M.1 49 v1.toNatClampNeg) + (M.1 49 (v1 - (1 : Int32)).toNatClampNeg)))) else none else none else none) else (some (.inl (.inr ()), M))
noncomputable def mf_145_L43 (s : Int32) (M : mm_M) : mm_O (Unit) := mm_L (fun s M => mf_145_b43 s M) s M
set_option maxRecDepth 8000 in
set_option maxHeartbeats 4000000 in
theorem ms_145_b43 {L : Nat} {xs : Nat → Int32} {d : Nat} (hd : 1 ≤ d) {v1 : Int32} {M : mm_M} {q : (((Int32) ⊕ (Unit)) ⊕ Nat) × mm_M} {o : mm_E} (h : mf_145_b43 v1 M = some q) (hA : mm_A (mm_K2 (fun s M o => mp_145_43 L xs (d) s M o) (fun r M o => mp_145_75 L xs (d) M o)) q o) : mp_145_43 L xs d v1 M o := by
  unfold mf_145_b43 at h
  obtain ⟨d, rfl⟩ := mm_d1 (n := 0) hd
  intro z2
  show mm_Runs L xs (d + 1) 145 (43, [some (.ref 42), some (.int v1), z2], [], M) o
  refine mm_Runs.seq (l := [(43, .iload_n 1, 1), (44, .aload_n 0, 1), (45, .getfield 33, 3), (48, .arraylength, 1)]) (S2 := (49, [some (.ref 42), some (.int v1), z2], [.int (257 : Int32), .int v1], M)) (by decide +kernel) (hO := mm_own_145) rfl ?_
  refine mm_R_ige (t := 75) rfl rfl rfl (fun hc => ?_) (fun hc => ?_)
  · replace h := mm_ip hc h
    refine mm_Runs.seq (l := [(52, .aload_n 0, 1), (53, .getfield 33, 3), (56, .iload_n 1, 1), (57, .dup2, 1)]) (S2 := (58, [some (.ref 42), some (.int v1), z2], [.int v1, .ref 49, .int v1, .ref 49], M)) (by decide +kernel) (hO := mm_own_145) rfl ?_
    obtain ⟨hb, h⟩ := mm_gd h
    refine mm_R_iald rfl rfl hb ?_
    refine mm_Runs.seq (l := [(59, .aload_n 0, 1), (60, .getfield 33, 3), (63, .iload_n 1, 1), (64, .iconst 1, 1), (65, .isub, 1)]) (S2 := (66, [some (.ref 42), some (.int v1), z2], [.int (v1 - (1 : Int32)), .ref 49, .int (M.1 49 v1.toNatClampNeg), .int v1, .ref 49], M)) (by decide +kernel) (hO := mm_own_145) rfl ?_
    obtain ⟨hb, h⟩ := mm_gd h
    refine mm_R_iald rfl rfl hb ?_
    refine mm_Runs.seq (l := [(67, .iadd, 1)]) (S2 := (68, [some (.ref 42), some (.int v1), z2], [.int ((M.1 49 v1.toNatClampNeg) + (M.1 49 (v1 - (1 : Int32)).toNatClampNeg)), .int v1, .ref 49], M)) (by decide +kernel) (hO := mm_own_145) rfl ?_
    obtain ⟨hb, h⟩ := mm_gd h
    refine mm_R_iast rfl rfl hb ?_
    refine mm_Runs.seq (l := [(69, .iinc 1 1, 3), (72, .goto (-29), 3)]) (S2 := (43, [some (.ref 42), some (.int (v1 + (1 : Int32))), z2], [], (mm_pi M 49 v1.toNatClampNeg ((M.1 49 v1.toNatClampNeg) + (M.1 49 (v1 - (1 : Int32)).toNatClampNeg))))) (by decide +kernel) (hO := mm_own_145) rfl ?_
    cases h
    exact (show mp_145_43 L xs (d + 1) (v1 + (1 : Int32)) (mm_pi M 49 v1.toNatClampNeg ((M.1 49 v1.toNatClampNeg) + (M.1 49 (v1 - (1 : Int32)).toNatClampNeg))) o from hA) z2
  · replace h := mm_iq hc h
    cases h
    exact (show mp_145_75 L xs (d + 1) M o from hA) (some (.int v1)) z2
theorem ms_145_L43 {L : Nat} {xs : Nat → Int32} {d : Nat} (hd : 1 ≤ d) {v1 : Int32} {β : Type} {K : β → mm_M → mm_E → Prop} {F : (Unit) → mm_M → mm_O β} {M : mm_M} {q : (β ⊕ Nat) × mm_M} {o : mm_E} (h : mm_B (mf_145_L43 v1 M) F = some q) (hA : mm_A K q o) (hx : ∀ (r : (Unit)) (M2 : mm_M), F r M2 = some q → (fun r M o => mp_145_75 L xs (d) M o) r M2 o) : mp_145_43 L xs d v1 M o := mm_R_loop (s := v1) (M := M) (P := (fun s M o => mp_145_43 L xs (d) s M o)) (X := (fun r M o => mp_145_75 L xs (d) M o)) h hA (fun s M q hq hA => ms_145_b43 hd hq hA) hx
def mp_145_77 (L : Nat) (xs : Nat → Int32) (d : Nat) (v1 : Int32) (M : mm_M) (o : mm_E) : Prop := ∀ z2 : Option Value, mm_Runs L xs d 145 (77, [some (.ref 42), some (.int v1), z2], [], M) o
def mp_145_120 (L : Nat) (xs : Nat → Int32) (d : Nat) (M : mm_M) (o : mm_E) : Prop := ∀ z0 z1 z2 : Option Value, mm_Runs L xs d 145 (120, [z0, z1, z2], [], M) o
noncomputable def mf_145_b77 (v1 : Int32) (M : mm_M) : mm_O ((Int32) ⊕ (Unit)) := if v1 < (M.1 42 12) then (if mm_in v1 16384 then if mm_in (M.1 47 v1.toNatClampNeg) 257 then if mm_in (M.1 49 (M.1 47 v1.toNatClampNeg).toNatClampNeg) 16384 then if mm_in (M.1 47 v1.toNatClampNeg) 257 then if mm_in (M.1 47 v1.toNatClampNeg) 257 then some (.inl (.inl (v1 + (1 : Int32))), (mm_pi (mm_pi M 48 (M.1 49 (M.1 47 v1.toNatClampNeg).toNatClampNeg).toNatClampNeg v1) 49 (M.1 47 v1.toNatClampNeg).toNatClampNeg ((M.1 49 (M.1 47 v1.toNatClampNeg).toNatClampNeg) + (1 : Int32)))) else none else none else none else none else none) else (some (.inl (.inr ()), M))
noncomputable def mf_145_L77 (s : Int32) (M : mm_M) : mm_O (Unit) := mm_L (fun s M => mf_145_b77 s M) s M
set_option maxRecDepth 8000 in
set_option maxHeartbeats 4000000 in
theorem ms_145_b77 {L : Nat} {xs : Nat → Int32} {d : Nat} (hd : 1 ≤ d) {v1 : Int32} {M : mm_M} {q : (((Int32) ⊕ (Unit)) ⊕ Nat) × mm_M} {o : mm_E} (h : mf_145_b77 v1 M = some q) (hA : mm_A (mm_K2 (fun s M o => mp_145_77 L xs (d) s M o) (fun r M o => mp_145_120 L xs (d) M o)) q o) : mp_145_77 L xs d v1 M o := by
  unfold mf_145_b77 at h
  obtain ⟨d, rfl⟩ := mm_d1 (n := 0) hd
  intro z2
  show mm_Runs L xs (d + 1) 145 (77, [some (.ref 42), some (.int v1), z2], [], M) o
  refine mm_Runs.seq (l := [(77, .iload_n 1, 1), (78, .aload_n 0, 1), (79, .getfield 124, 3)]) (S2 := (82, [some (.ref 42), some (.int v1), z2], [.int (M.1 42 12), .int v1], M)) (by decide +kernel) (hO := mm_own_145) rfl ?_
  refine mm_R_ige (t := 120) rfl rfl rfl (fun hc => ?_) (fun hc => ?_)
  · replace h := mm_ip hc h
    refine mm_Runs.seq (l := [(85, .aload_n 0, 1), (86, .getfield 27, 3), (89, .iload_n 1, 1)]) (S2 := (90, [some (.ref 42), some (.int v1), z2], [.int v1, .ref 47], M)) (by decide +kernel) (hO := mm_own_145) rfl ?_
    obtain ⟨hb, h⟩ := mm_gd h
    refine mm_R_iald rfl rfl hb ?_
    refine mm_Runs.seq (l := [(91, .istore_n 2, 1), (92, .aload_n 0, 1), (93, .getfield 30, 3), (96, .aload_n 0, 1), (97, .getfield 33, 3), (100, .iload_n 2, 1)]) (S2 := (101, [some (.ref 42), some (.int v1), some (.int (M.1 47 v1.toNatClampNeg))], [.int (M.1 47 v1.toNatClampNeg), .ref 49, .ref 48], M)) (by decide +kernel) (hO := mm_own_145) rfl ?_
    obtain ⟨hb, h⟩ := mm_gd h
    refine mm_R_iald rfl rfl hb ?_
    refine mm_Runs.seq (l := [(102, .iload_n 1, 1)]) (S2 := (103, [some (.ref 42), some (.int v1), some (.int (M.1 47 v1.toNatClampNeg))], [.int v1, .int (M.1 49 (M.1 47 v1.toNatClampNeg).toNatClampNeg), .ref 48], M)) (by decide +kernel) (hO := mm_own_145) rfl ?_
    obtain ⟨hb, h⟩ := mm_gd h
    refine mm_R_iast rfl rfl hb ?_
    refine mm_Runs.seq (l := [(104, .aload_n 0, 1), (105, .getfield 33, 3), (108, .iload_n 2, 1), (109, .dup2, 1)]) (S2 := (110, [some (.ref 42), some (.int v1), some (.int (M.1 47 v1.toNatClampNeg))], [.int (M.1 47 v1.toNatClampNeg), .ref 49, .int (M.1 47 v1.toNatClampNeg), .ref 49], (mm_pi M 48 (M.1 49 (M.1 47 v1.toNatClampNeg).toNatClampNeg).toNatClampNeg v1))) (by decide +kernel) (hO := mm_own_145) rfl ?_
    obtain ⟨hb, h⟩ := mm_gd h
    refine mm_R_iald rfl rfl hb ?_
    refine mm_Runs.seq (l := [(111, .iconst 1, 1), (112, .iadd, 1)]) (S2 := (113, [some (.ref 42), some (.int v1), some (.int (M.1 47 v1.toNatClampNeg))], [.int ((M.1 49 (M.1 47 v1.toNatClampNeg).toNatClampNeg) + (1 : Int32)), .int (M.1 47 v1.toNatClampNeg), .ref 49], (mm_pi M 48 (M.1 49 (M.1 47 v1.toNatClampNeg).toNatClampNeg).toNatClampNeg v1))) (by decide +kernel) (hO := mm_own_145) rfl ?_
    obtain ⟨hb, h⟩ := mm_gd h
    refine mm_R_iast rfl rfl hb ?_
    refine mm_Runs.seq (l := [(114, .iinc 1 1, 3), (117, .goto (-40), 3)]) (S2 := (77, [some (.ref 42), some (.int (v1 + (1 : Int32))), some (.int (M.1 47 v1.toNatClampNeg))], [], (mm_pi (mm_pi M 48 (M.1 49 (M.1 47 v1.toNatClampNeg).toNatClampNeg).toNatClampNeg v1) 49 (M.1 47 v1.toNatClampNeg).toNatClampNeg ((M.1 49 (M.1 47 v1.toNatClampNeg).toNatClampNeg) + (1 : Int32))))) (by decide +kernel) (hO := mm_own_145) rfl ?_
    cases h
    exact (show mp_145_77 L xs (d + 1) (v1 + (1 : Int32)) (mm_pi (mm_pi M 48 (M.1 49 (M.1 47 v1.toNatClampNeg).toNatClampNeg).toNatClampNeg v1) 49 (M.1 47 v1.toNatClampNeg).toNatClampNeg ((M.1 49 (M.1 47 v1.toNatClampNeg).toNatClampNeg) + (1 : Int32))) o from hA) (some (.int (M.1 47 v1.toNatClampNeg)))
  · replace h := mm_iq hc h
    cases h
    exact (show mp_145_120 L xs (d + 1) M o from hA) (some (.ref 42)) (some (.int v1)) z2
theorem ms_145_L77 {L : Nat} {xs : Nat → Int32} {d : Nat} (hd : 1 ≤ d) {v1 : Int32} {β : Type} {K : β → mm_M → mm_E → Prop} {F : (Unit) → mm_M → mm_O β} {M : mm_M} {q : (β ⊕ Nat) × mm_M} {o : mm_E} (h : mm_B (mf_145_L77 v1 M) F = some q) (hA : mm_A K q o) (hx : ∀ (r : (Unit)) (M2 : mm_M), F r M2 = some q → (fun r M o => mp_145_120 L xs (d) M o) r M2 o) : mp_145_77 L xs d v1 M o := mm_R_loop (s := v1) (M := M) (P := (fun s M o => mp_145_77 L xs (d) s M o)) (X := (fun r M o => mp_145_120 L xs (d) M o)) h hA (fun s M q hq hA => ms_145_b77 hd hq hA) hx
noncomputable def mf_145 (M : mm_M) : mm_O Unit := mm_B (mf_290 49 257 (0 : Int32) M) (fun _ M1 => mm_B (mf_145_L10 (0 : Int32) M1) (fun r3 M2 => mm_B (mf_145_L43 (1 : Int32) M2) (fun r7 M6 => mm_B (mf_145_L77 (0 : Int32) M6) (fun r11 M10 => some (.inl (), M10)))))
set_option maxRecDepth 8000 in
set_option maxHeartbeats 4000000 in
theorem ms_145 {L : Nat} {xs : Nat → Int32} {d : Nat} (hd : 1 ≤ d) {M : mm_M} {q : (Unit ⊕ Nat) × mm_M} {o : mm_E} (h : mf_145 M = some q) (hA : mm_A (mm_Kr mm_wv) q o) : mm_Runs L xs d 145 (0, mm_ent (mm_ml 145) [.ref 42], [], M) o := by
  unfold mf_145 at h
  obtain ⟨d, rfl⟩ := mm_d1 (n := 0) hd
  show mm_Runs L xs (d + 1) 145 (0, [some (.ref 42), none, none], [], M) o
  refine mm_Runs.seq (l := [(0, .aload_n 0, 1), (1, .getfield 33, 3), (4, .iconst 0, 1)]) (S2 := (5, [some (.ref 42), none, none], [.int (0 : Int32), .ref 49], M)) (by decide +kernel) (hO := mm_own_145) rfl ?_
  refine mm_R_call (v := mm_wv) h hA (k2 := 290) (as := [.ref 49, .int (0 : Int32)]) (r := []) rfl (fun _ => rfl) (fun q hq o ho => ms_290 rfl (by omega) hq ho) (fun _ M1 h => ?_)
  show mm_Runs L xs (d + 1) 145 (8, [some (.ref 42), none, none], [], M1) o
  refine mm_Runs.seq (l := [(8, .iconst 0, 1), (9, .istore_n 1, 1)]) (S2 := (10, [some (.ref 42), some (.int (0 : Int32)), none], [], M1)) (by decide +kernel) (hO := mm_own_145) rfl ?_
  have hp : mp_145_10 L xs (d + 1) (0 : Int32) M1 o := by
    refine ms_145_L10 hd h hA (fun r3 M2 h => ?_)
    intro y4 y5
    show mm_Runs L xs (d + 1) 145 (41, [some (.ref 42), y4, y5], [], M2) o
    refine mm_Runs.seq (l := [(41, .iconst 1, 1), (42, .istore_n 1, 1)]) (S2 := (43, [some (.ref 42), some (.int (1 : Int32)), y5], [], M2)) (by decide +kernel) (hO := mm_own_145) rfl ?_
    have hp : mp_145_43 L xs (d + 1) (1 : Int32) M2 o := by
      refine ms_145_L43 hd h hA (fun r7 M6 h => ?_)
      intro y8 y9
      show mm_Runs L xs (d + 1) 145 (75, [some (.ref 42), y8, y9], [], M6) o
      refine mm_Runs.seq (l := [(75, .iconst 0, 1), (76, .istore_n 1, 1)]) (S2 := (77, [some (.ref 42), some (.int (0 : Int32)), y9], [], M6)) (by decide +kernel) (hO := mm_own_145) rfl ?_
      have hp : mp_145_77 L xs (d + 1) (0 : Int32) M6 o := by
        refine ms_145_L77 hd h hA (fun r11 M10 h => ?_)
        intro y12 y13 y14
        show mm_Runs L xs (d + 1) 145 (120, [y12, y13, y14], [], M10) o
        cases h
        exact mm_R_retv rfl rfl hA
      exact hp y9
    exact hp y5
  exact hp none
-- 146: PlainPacks$Sorted.putText()V (depth 8)
theorem mm_own_146 : mm_own 146 = 10 := rfl
def mp_146_17 (L : Nat) (xs : Nat → Int32) (d : Nat) (v1 : Int32) (v2 : Int32) (v3 : Int32) (v4 : Int32) (M : mm_M) (o : mm_E) : Prop := ∀ z5 z6 : Option Value, mm_Runs L xs d 146 (17, [some (.ref 42), some (.int v1), some (.int v2), some (.int v3), some (.int v4), z5, z6], [], M) o
def mp_146_109 (L : Nat) (xs : Nat → Int32) (d : Nat) (M : mm_M) (o : mm_E) : Prop := ∀ z0 z1 z2 z3 z4 z5 z6 : Option Value, mm_Runs L xs d 146 (109, [z0, z1, z2, z3, z4, z5, z6], [], M) o
def mp_146_49 (L : Nat) (xs : Nat → Int32) (d : Nat) (v1 : Int32) (v3 : Int32) (v4 : Int32) (v5 : Int32) (v6 : Int32) (M : mm_M) (o : mm_E) : Prop := ∀ z2 : Option Value, mm_Runs L xs d 146 (49, [some (.ref 42), some (.int v1), z2, some (.int v3), some (.int v4), some (.int v5), some (.int v6)], [], M) o
def mp_146_70 (L : Nat) (xs : Nat → Int32) (d : Nat) (v3 : Int32) (v4 : Int32) (M : mm_M) (o : mm_E) : Prop := ∀ z1 z2 z5 z6 : Option Value, mm_Runs L xs d 146 (70, [some (.ref 42), z1, z2, some (.int v3), some (.int v4), z5, z6], [], M) o
noncomputable def mf_146_b49 (v1 : Int32) (v3 : Int32) (v4 : Int32) (v5 : Int32) (v6 : Int32) (M : mm_M) : mm_O ((Int32) ⊕ (Unit)) := if v6 < v5 then (mm_B (mf_51 v1 M) (fun _ M1 => some (.inl (.inl (v6 + (1 : Int32))), M1))) else (some (.inl (.inr ()), M))
noncomputable def mf_146_L49 (v1 : Int32) (v3 : Int32) (v4 : Int32) (v5 : Int32) (s : Int32) (M : mm_M) : mm_O (Unit) := mm_L (fun s M => mf_146_b49 v1 v3 v4 v5 s M) s M
set_option maxRecDepth 8000 in
set_option maxHeartbeats 4000000 in
theorem ms_146_b49 {L : Nat} {xs : Nat → Int32} {d : Nat} (hd : 8 ≤ d) {v1 : Int32} {v3 : Int32} {v4 : Int32} {v5 : Int32} {v6 : Int32} {M : mm_M} {q : (((Int32) ⊕ (Unit)) ⊕ Nat) × mm_M} {o : mm_E} (h : mf_146_b49 v1 v3 v4 v5 v6 M = some q) (hA : mm_A (mm_K2 (fun s M o => mp_146_49 L xs (d) v1 v3 v4 v5 s M o) (fun r M o => mp_146_70 L xs (d) v3 v4 M o)) q o) : mp_146_49 L xs d v1 v3 v4 v5 v6 M o := by
  unfold mf_146_b49 at h
  obtain ⟨d, rfl⟩ := mm_d1 (n := 7) hd
  intro z2
  show mm_Runs L xs (d + 1) 146 (49, [some (.ref 42), some (.int v1), z2, some (.int v3), some (.int v4), some (.int v5), some (.int v6)], [], M) o
  refine mm_Runs.seq (l := [(49, .iload 6, 2), (51, .iload 5, 2)]) (S2 := (53, [some (.ref 42), some (.int v1), z2, some (.int v3), some (.int v4), some (.int v5), some (.int v6)], [.int v5, .int v6], M)) (by decide +kernel) (hO := mm_own_146) rfl ?_
  refine mm_R_ige (t := 70) rfl rfl rfl (fun hc => ?_) (fun hc => ?_)
  · replace h := mm_ip hc h
    refine mm_Runs.seq (l := [(56, .aload_n 0, 1), (57, .getfield 40, 3), (60, .iload_n 1, 1)]) (S2 := (61, [some (.ref 42), some (.int v1), z2, some (.int v3), some (.int v4), some (.int v5), some (.int v6)], [.int v1, .ref 3], M)) (by decide +kernel) (hO := mm_own_146) rfl ?_
    refine mm_R_call (v := mm_wv) h hA (k2 := 51) (as := [.ref 3, .int v1]) (r := []) rfl (fun _ => rfl) (fun q hq o ho => ms_51 (by omega) hq ho) (fun _ M1 h => ?_)
    show mm_Runs L xs (d + 1) 146 (64, [some (.ref 42), some (.int v1), z2, some (.int v3), some (.int v4), some (.int v5), some (.int v6)], [], M1) o
    refine mm_Runs.seq (l := [(64, .iinc 6 1, 3), (67, .goto (-18), 3)]) (S2 := (49, [some (.ref 42), some (.int v1), z2, some (.int v3), some (.int v4), some (.int v5), some (.int (v6 + (1 : Int32)))], [], M1)) (by decide +kernel) (hO := mm_own_146) rfl ?_
    cases h
    exact (show mp_146_49 L xs (d + 1) v1 v3 v4 v5 (v6 + (1 : Int32)) M1 o from hA) z2
  · replace h := mm_iq hc h
    cases h
    exact (show mp_146_70 L xs (d + 1) v3 v4 M o from hA) (some (.int v1)) z2 (some (.int v5)) (some (.int v6))
theorem ms_146_L49 {L : Nat} {xs : Nat → Int32} {d : Nat} (hd : 8 ≤ d) {v1 : Int32} {v3 : Int32} {v4 : Int32} {v5 : Int32} {v6 : Int32} {β : Type} {K : β → mm_M → mm_E → Prop} {F : (Unit) → mm_M → mm_O β} {M : mm_M} {q : (β ⊕ Nat) × mm_M} {o : mm_E} (h : mm_B (mf_146_L49 v1 v3 v4 v5 v6 M) F = some q) (hA : mm_A K q o) (hx : ∀ (r : (Unit)) (M2 : mm_M), F r M2 = some q → (fun r M o => mp_146_70 L xs (d) v3 v4 M o) r M2 o) : mp_146_49 L xs d v1 v3 v4 v5 v6 M o := mm_R_loop (s := v6) (M := M) (P := (fun s M o => mp_146_49 L xs (d) v1 v3 v4 v5 s M o)) (X := (fun r M o => mp_146_70 L xs (d) v3 v4 M o)) h hA (fun s M q hq hA => ms_146_b49 hd hq hA) hx
def mp_146_90 (L : Nat) (xs : Nat → Int32) (d : Nat) (v3 : Int32) (v4 : Int32) (v5 : Int32) (s0 : Int32) (M : mm_M) (o : mm_E) : Prop := ∀ z1 z2 z6 : Option Value, mm_Runs L xs d 146 (90, [some (.ref 42), z1, z2, some (.int v3), some (.int v4), some (.int v5), z6], [.int s0], M) o
noncomputable def mf_146_j90 (v3 : Int32) (v4 : Int32) (v5 : Int32) (s0 : Int32) (M : mm_M) : mm_O ((Int32 × Int32 × Int32 × Int32) ⊕ (Unit)) := mm_B (mf_51 v5 M) (fun _ M1 => some (.inl (.inl (v5, s0, v3, (v4 + (1 : Int32)))), M1))
set_option maxRecDepth 8000 in
set_option maxHeartbeats 4000000 in
theorem ms_146_j90 {L : Nat} {xs : Nat → Int32} {d : Nat} (hd : 8 ≤ d) {v3 : Int32} {v4 : Int32} {v5 : Int32} {s0 : Int32} {M : mm_M} {q : (((Int32 × Int32 × Int32 × Int32) ⊕ (Unit)) ⊕ Nat) × mm_M} {o : mm_E} (h : mf_146_j90 v3 v4 v5 s0 M = some q) (hA : mm_A (mm_K2 (fun s M o => mp_146_17 L xs (d) s.1 s.2.1 s.2.2.1 s.2.2.2 M o) (fun r M o => mp_146_109 L xs (d) M o)) q o) : mp_146_90 L xs d v3 v4 v5 s0 M o := by
  unfold mf_146_j90 at h
  obtain ⟨d, rfl⟩ := mm_d1 (n := 7) hd
  intro z1 z2 z6
  show mm_Runs L xs (d + 1) 146 (90, [some (.ref 42), z1, z2, some (.int v3), some (.int v4), some (.int v5), z6], [.int s0], M) o
  refine mm_Runs.seq (l := [(90, .istore_n 2, 1), (91, .iload 5, 2), (93, .istore_n 1, 1), (94, .aload_n 0, 1), (95, .getfield 40, 3), (98, .iload 5, 2)]) (S2 := (100, [some (.ref 42), some (.int v5), some (.int s0), some (.int v3), some (.int v4), some (.int v5), z6], [.int v5, .ref 3], M)) (by decide +kernel) (hO := mm_own_146) rfl ?_
  refine mm_R_call (v := mm_wv) h hA (k2 := 51) (as := [.ref 3, .int v5]) (r := []) rfl (fun _ => rfl) (fun q hq o ho => ms_51 (by omega) hq ho) (fun _ M1 h => ?_)
  show mm_Runs L xs (d + 1) 146 (103, [some (.ref 42), some (.int v5), some (.int s0), some (.int v3), some (.int v4), some (.int v5), z6], [], M1) o
  refine mm_Runs.seq (l := [(103, .iinc 4 1, 3), (106, .goto (-89), 3)]) (S2 := (17, [some (.ref 42), some (.int v5), some (.int s0), some (.int v3), some (.int (v4 + (1 : Int32))), some (.int v5), z6], [], M1)) (by decide +kernel) (hO := mm_own_146) rfl ?_
  cases h
  exact (show mp_146_17 L xs (d + 1) v5 s0 v3 (v4 + (1 : Int32)) M1 o from hA) (some (.int v5)) z6
noncomputable def mf_146_b17 (v1 : Int32) (v2 : Int32) (v3 : Int32) (v4 : Int32) (M : mm_M) : mm_O ((Int32 × Int32 × Int32 × Int32) ⊕ (Unit)) := if v4 < (M.1 42 12) then (if mm_in v3 16384 then if mm_in v3 16384 then if v2 = (4 : Int32) then (mm_B (mf_146_L49 v1 (M.1 48 v3.toNatClampNeg) v4 (M.1 47 v3.toNatClampNeg) (0 : Int32) M) (fun r2 M1 => some (.inl (.inl ((-1 : Int32), (0 : Int32), (M.1 48 v3.toNatClampNeg), (v4 + (1 : Int32)))), M1))) else (if (M.1 47 v3.toNatClampNeg) = v1 then (mf_146_j90 (M.1 48 v3.toNatClampNeg) v4 (M.1 47 v3.toNatClampNeg) (v2 + (1 : Int32)) M) else (mf_146_j90 (M.1 48 v3.toNatClampNeg) v4 (M.1 47 v3.toNatClampNeg) (1 : Int32) M)) else none else none) else (some (.inl (.inr ()), M))
noncomputable def mf_146_L17 (s : Int32 × Int32 × Int32 × Int32) (M : mm_M) : mm_O (Unit) := mm_L (fun s M => mf_146_b17 s.1 s.2.1 s.2.2.1 s.2.2.2 M) s M
set_option maxRecDepth 8000 in
set_option maxHeartbeats 4000000 in
theorem ms_146_b17 {L : Nat} {xs : Nat → Int32} {d : Nat} (hd : 8 ≤ d) {v1 : Int32} {v2 : Int32} {v3 : Int32} {v4 : Int32} {M : mm_M} {q : (((Int32 × Int32 × Int32 × Int32) ⊕ (Unit)) ⊕ Nat) × mm_M} {o : mm_E} (h : mf_146_b17 v1 v2 v3 v4 M = some q) (hA : mm_A (mm_K2 (fun s M o => mp_146_17 L xs (d) s.1 s.2.1 s.2.2.1 s.2.2.2 M o) (fun r M o => mp_146_109 L xs (d) M o)) q o) : mp_146_17 L xs d v1 v2 v3 v4 M o := by
  unfold mf_146_b17 at h
  obtain ⟨d, rfl⟩ := mm_d1 (n := 7) hd
  intro z5 z6
  show mm_Runs L xs (d + 1) 146 (17, [some (.ref 42), some (.int v1), some (.int v2), some (.int v3), some (.int v4), z5, z6], [], M) o
  refine mm_Runs.seq (l := [(17, .iload 4, 2), (19, .aload_n 0, 1), (20, .getfield 124, 3)]) (S2 := (23, [some (.ref 42), some (.int v1), some (.int v2), some (.int v3), some (.int v4), z5, z6], [.int (M.1 42 12), .int v4], M)) (by decide +kernel) (hO := mm_own_146) rfl ?_
  refine mm_R_ige (t := 109) rfl rfl rfl (fun hc => ?_) (fun hc => ?_)
  · replace h := mm_ip hc h
    refine mm_Runs.seq (l := [(26, .aload_n 0, 1), (27, .getfield 27, 3), (30, .iload_n 3, 1)]) (S2 := (31, [some (.ref 42), some (.int v1), some (.int v2), some (.int v3), some (.int v4), z5, z6], [.int v3, .ref 47], M)) (by decide +kernel) (hO := mm_own_146) rfl ?_
    obtain ⟨hb, h⟩ := mm_gd h
    refine mm_R_iald rfl rfl hb ?_
    refine mm_Runs.seq (l := [(32, .istore 5, 2), (34, .aload_n 0, 1), (35, .getfield 30, 3), (38, .iload_n 3, 1)]) (S2 := (39, [some (.ref 42), some (.int v1), some (.int v2), some (.int v3), some (.int v4), some (.int (M.1 47 v3.toNatClampNeg)), z6], [.int v3, .ref 48], M)) (by decide +kernel) (hO := mm_own_146) rfl ?_
    obtain ⟨hb, h⟩ := mm_gd h
    refine mm_R_iald rfl rfl hb ?_
    refine mm_Runs.seq (l := [(40, .istore_n 3, 1), (41, .iload_n 2, 1), (42, .iconst 4, 1)]) (S2 := (43, [some (.ref 42), some (.int v1), some (.int v2), some (.int (M.1 48 v3.toNatClampNeg)), some (.int v4), some (.int (M.1 47 v3.toNatClampNeg)), z6], [.int (4 : Int32), .int v2], M)) (by decide +kernel) (hO := mm_own_146) rfl ?_
    refine mm_R_ine (t := 77) rfl rfl rfl (fun hc => ?_) (fun hc => ?_)
    · replace h := mm_ip hc h
      refine mm_Runs.seq (l := [(46, .iconst 0, 1), (47, .istore 6, 2)]) (S2 := (49, [some (.ref 42), some (.int v1), some (.int v2), some (.int (M.1 48 v3.toNatClampNeg)), some (.int v4), some (.int (M.1 47 v3.toNatClampNeg)), some (.int (0 : Int32))], [], M)) (by decide +kernel) (hO := mm_own_146) rfl ?_
      have hp : mp_146_49 L xs (d + 1) v1 (M.1 48 v3.toNatClampNeg) v4 (M.1 47 v3.toNatClampNeg) (0 : Int32) M o := by
        refine ms_146_L49 hd h hA (fun r2 M1 h => ?_)
        intro y3 y4 y5 y6
        show mm_Runs L xs (d + 1) 146 (70, [some (.ref 42), y3, y4, some (.int (M.1 48 v3.toNatClampNeg)), some (.int v4), y5, y6], [], M1) o
        refine mm_Runs.seq (l := [(70, .iconst 0, 1), (71, .istore_n 2, 1), (72, .iconst (-1), 1), (73, .istore_n 1, 1), (74, .goto 29, 3), (103, .iinc 4 1, 3), (106, .goto (-89), 3)]) (S2 := (17, [some (.ref 42), some (.int (-1 : Int32)), some (.int (0 : Int32)), some (.int (M.1 48 v3.toNatClampNeg)), some (.int (v4 + (1 : Int32))), y5, y6], [], M1)) (by decide +kernel) (hO := mm_own_146) rfl ?_
        cases h
        exact (show mp_146_17 L xs (d + 1) (-1 : Int32) (0 : Int32) (M.1 48 v3.toNatClampNeg) (v4 + (1 : Int32)) M1 o from hA) y5 y6
      exact hp (some (.int v2))
    · replace h := mm_iq hc h
      refine mm_Runs.seq (l := [(77, .iload 5, 2), (79, .iload_n 1, 1)]) (S2 := (80, [some (.ref 42), some (.int v1), some (.int v2), some (.int (M.1 48 v3.toNatClampNeg)), some (.int v4), some (.int (M.1 47 v3.toNatClampNeg)), z6], [.int v1, .int (M.1 47 v3.toNatClampNeg)], M)) (by decide +kernel) (hO := mm_own_146) rfl ?_
      refine mm_R_ine (t := 89) rfl rfl rfl (fun hc => ?_) (fun hc => ?_)
      · replace h := mm_ip hc h
        refine mm_Runs.seq (l := [(83, .iload_n 2, 1), (84, .iconst 1, 1), (85, .iadd, 1), (86, .goto 4, 3)]) (S2 := (90, [some (.ref 42), some (.int v1), some (.int v2), some (.int (M.1 48 v3.toNatClampNeg)), some (.int v4), some (.int (M.1 47 v3.toNatClampNeg)), z6], [.int (v2 + (1 : Int32))], M)) (by decide +kernel) (hO := mm_own_146) rfl ?_
        exact (ms_146_j90 hd h hA : mp_146_90 L xs (d + 1) (M.1 48 v3.toNatClampNeg) v4 (M.1 47 v3.toNatClampNeg) (v2 + (1 : Int32)) M o) (some (.int v1)) (some (.int v2)) z6
      · replace h := mm_iq hc h
        refine mm_Runs.seq (l := [(89, .iconst 1, 1)]) (S2 := (90, [some (.ref 42), some (.int v1), some (.int v2), some (.int (M.1 48 v3.toNatClampNeg)), some (.int v4), some (.int (M.1 47 v3.toNatClampNeg)), z6], [.int (1 : Int32)], M)) (by decide +kernel) (hO := mm_own_146) rfl ?_
        exact (ms_146_j90 hd h hA : mp_146_90 L xs (d + 1) (M.1 48 v3.toNatClampNeg) v4 (M.1 47 v3.toNatClampNeg) (1 : Int32) M o) (some (.int v1)) (some (.int v2)) z6
  · replace h := mm_iq hc h
    cases h
    exact (show mp_146_109 L xs (d + 1) M o from hA) (some (.ref 42)) (some (.int v1)) (some (.int v2)) (some (.int v3)) (some (.int v4)) z5 z6
theorem ms_146_L17 {L : Nat} {xs : Nat → Int32} {d : Nat} (hd : 8 ≤ d) {v1 : Int32} {v2 : Int32} {v3 : Int32} {v4 : Int32} {β : Type} {K : β → mm_M → mm_E → Prop} {F : (Unit) → mm_M → mm_O β} {M : mm_M} {q : (β ⊕ Nat) × mm_M} {o : mm_E} (h : mm_B (mf_146_L17 (v1, v2, v3, v4) M) F = some q) (hA : mm_A K q o) (hx : ∀ (r : (Unit)) (M2 : mm_M), F r M2 = some q → (fun r M o => mp_146_109 L xs (d) M o) r M2 o) : mp_146_17 L xs d v1 v2 v3 v4 M o := mm_R_loop (s := (v1, v2, v3, v4)) (M := M) (P := (fun s M o => mp_146_17 L xs (d) s.1 s.2.1 s.2.2.1 s.2.2.2 M o)) (X := (fun r M o => mp_146_109 L xs (d) M o)) h hA (fun s M q hq hA => ms_146_b17 hd hq hA) hx
noncomputable def mf_146 (M : mm_M) : mm_O Unit := if mm_in (M.1 42 10) 16384 then mm_B (mf_146_L17 ((-1 : Int32), (0 : Int32), (M.1 48 (M.1 42 10).toNatClampNeg), (0 : Int32)) M) (fun r2 M1 => some (.inl (), M1)) else none
set_option maxRecDepth 8000 in
set_option maxHeartbeats 4000000 in
theorem ms_146 {L : Nat} {xs : Nat → Int32} {d : Nat} (hd : 8 ≤ d) {M : mm_M} {q : (Unit ⊕ Nat) × mm_M} {o : mm_E} (h : mf_146 M = some q) (hA : mm_A (mm_Kr mm_wv) q o) : mm_Runs L xs d 146 (0, mm_ent (mm_ml 146) [.ref 42], [], M) o := by
  unfold mf_146 at h
  obtain ⟨d, rfl⟩ := mm_d1 (n := 7) hd
  show mm_Runs L xs (d + 1) 146 (0, [some (.ref 42), none, none, none, none, none, none], [], M) o
  refine mm_Runs.seq (l := [(0, .iconst (-1), 1), (1, .istore_n 1, 1), (2, .iconst 0, 1), (3, .istore_n 2, 1), (4, .aload_n 0, 1), (5, .getfield 30, 3), (8, .aload_n 0, 1), (9, .getfield 108, 3)]) (S2 := (12, [some (.ref 42), some (.int (-1 : Int32)), some (.int (0 : Int32)), none, none, none, none], [.int (M.1 42 10), .ref 48], M)) (by decide +kernel) (hO := mm_own_146) rfl ?_
  obtain ⟨hb, h⟩ := mm_gd h
  refine mm_R_iald rfl rfl hb ?_
  refine mm_Runs.seq (l := [(13, .istore_n 3, 1), (14, .iconst 0, 1), (15, .istore 4, 2)]) (S2 := (17, [some (.ref 42), some (.int (-1 : Int32)), some (.int (0 : Int32)), some (.int (M.1 48 (M.1 42 10).toNatClampNeg)), some (.int (0 : Int32)), none, none], [], M)) (by decide +kernel) (hO := mm_own_146) rfl ?_
  have hp : mp_146_17 L xs (d + 1) (-1 : Int32) (0 : Int32) (M.1 48 (M.1 42 10).toNatClampNeg) (0 : Int32) M o := by
    refine ms_146_L17 hd h hA (fun r2 M1 h => ?_)
    intro y3 y4 y5 y6 y7 y8 y9
    show mm_Runs L xs (d + 1) 146 (109, [y3, y4, y5, y6, y7, y8, y9], [], M1) o
    cases h
    exact mm_R_retv rfl rfl hA
  exact hp none none
