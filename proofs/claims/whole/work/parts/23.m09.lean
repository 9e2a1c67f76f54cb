/-! MEANINGS 9 -/
-- 139: PlainPacks$Sorted.readOccurring()V (depth 9)
theorem mm_own_139 : mm_own 139 = 10 := rfl
def mp_139_18 (L : Nat) (xs : Nat → Int32) (d : Nat) (v1 : Int32) (v2 : Int32) (M : mm_M) (o : mm_E) : Prop := ∀ z3 z4 : Option Value, mm_Runs L xs d 139 (18, [some (.ref 42), some (.int v1), some (.int v2), z3, z4], [], M) o
def mp_139_110 (L : Nat) (xs : Nat → Int32) (d : Nat) (M : mm_M) (o : mm_E) : Prop := ∀ z1 z2 z3 z4 : Option Value, mm_Runs L xs d 139 (110, [some (.ref 42), z1, z2, z3, z4], [], M) o
def mp_139_53 (L : Nat) (xs : Nat → Int32) (d : Nat) (v1 : Int32) (v2 : Int32) (v3 : Int32) (v4 : Int32) (M : mm_M) (o : mm_E) : Prop := mm_Runs L xs d 139 (53, [some (.ref 42), some (.int v1), some (.int v2), some (.int v3), some (.int v4)], [], M) o
def mp_139_104 (L : Nat) (xs : Nat → Int32) (d : Nat) (v1 : Int32) (v2 : Int32) (M : mm_M) (o : mm_E) : Prop := ∀ z3 z4 : Option Value, mm_Runs L xs d 139 (104, [some (.ref 42), some (.int v1), some (.int v2), z3, z4], [], M) o
noncomputable def mf_139_b53 (v1 : Int32) (v2 : Int32) (v3 : Int32) (v4 : Int32) (M : mm_M) : mm_O ((Int32) ⊕ (Unit)) := if v4 < (16 : Int32) then (if ((mm_shr v3 ((15 : Int32) - v4)) &&& (1 : Int32)) = 0 then (some (.inl (.inl (v4 + (1 : Int32))), M)) else (if mm_in (M.1 42 9) 256 then some (.inl (.inl (v4 + (1 : Int32))), (mm_pi (mm_pi M 46 (M.1 42 9).toNatClampNeg (((16 : Int32) * v2) + v4)) 42 9 ((M.1 42 9) + (1 : Int32)))) else none)) else (some (.inl (.inr ()), M))
noncomputable def mf_139_L53 (v1 : Int32) (v2 : Int32) (v3 : Int32) (s : Int32) (M : mm_M) : mm_O (Unit) := mm_L (fun s M => mf_139_b53 v1 v2 v3 s M) s M
set_option maxRecDepth 8000 in
set_option maxHeartbeats 4000000 in
theorem ms_139_b53 {L : Nat} {xs : Nat → Int32} {d : Nat} (hd : 9 ≤ d) {v1 : Int32} {v2 : Int32} {v3 : Int32} {v4 : Int32} {M : mm_M} {q : (((Int32) ⊕ (Unit)) ⊕ Nat) × mm_M} {o : mm_E} (h : mf_139_b53 v1 v2 v3 v4 M = some q) (hA : mm_A (mm_K2 (fun s M o => mp_139_53 L xs (d) v1 v2 v3 s M o) (fun r M o => mp_139_104 L xs (d) v1 v2 M o)) q o) : mp_139_53 L xs d v1 v2 v3 v4 M o := by
  unfold mf_139_b53 at h
  obtain ⟨d, rfl⟩ := mm_d1 (n := 8) hd
  show mm_Runs L xs (d + 1) 139 (53, [some (.ref 42), some (.int v1), some (.int v2), some (.int v3), some (.int v4)], [], M) o
  refine mm_Runs.seq (l := [(53, .iload 4, 2), (55, .bipush 16, 2)]) (S2 := (57, [some (.ref 42), some (.int v1), some (.int v2), some (.int v3), some (.int v4)], [.int (16 : Int32), .int v4], M)) (by decide +kernel) (hO := mm_own_139) rfl ?_
  refine mm_R_ige (t := 104) rfl rfl rfl (fun hc => ?_) (fun hc => ?_)
  · replace h := mm_ip hc h
    refine mm_Runs.seq (l := [(60, .iload_n 3, 1), (61, .bipush 15, 2), (63, .iload 4, 2), (65, .isub, 1), (66, .ishr, 1), (67, .iconst 1, 1), (68, .iand, 1)]) (S2 := (69, [some (.ref 42), some (.int v1), some (.int v2), some (.int v3), some (.int v4)], [.int ((mm_shr v3 ((15 : Int32) - v4)) &&& (1 : Int32))], M)) (by decide +kernel) (hO := mm_own_139) rfl ?_
    refine mm_R_zeq (t := 98) rfl rfl rfl (fun hc => ?_) (fun hc => ?_)
    · replace h := mm_ip hc h
      refine mm_Runs.seq (l := [(98, .iinc 4 1, 3), (101, .goto (-48), 3)]) (S2 := (53, [some (.ref 42), some (.int v1), some (.int v2), some (.int v3), some (.int (v4 + (1 : Int32)))], [], M)) (by decide +kernel) (hO := mm_own_139) rfl ?_
      cases h
      exact (show mp_139_53 L xs (d + 1) v1 v2 v3 (v4 + (1 : Int32)) M o from hA)
    · replace h := mm_iq hc h
      refine mm_Runs.seq (l := [(72, .aload_n 0, 1), (73, .getfield 24, 3), (76, .aload_n 0, 1), (77, .getfield 125, 3), (80, .bipush 16, 2), (82, .iload_n 2, 1), (83, .imul, 1), (84, .iload 4, 2), (86, .iadd, 1)]) (S2 := (87, [some (.ref 42), some (.int v1), some (.int v2), some (.int v3), some (.int v4)], [.int (((16 : Int32) * v2) + v4), .int (M.1 42 9), .ref 46], M)) (by decide +kernel) (hO := mm_own_139) rfl ?_
      obtain ⟨hb, h⟩ := mm_gd h
      refine mm_R_iast rfl rfl hb ?_
      refine mm_Runs.seq (l := [(88, .aload_n 0, 1), (89, .dup, 1), (90, .getfield 125, 3), (93, .iconst 1, 1), (94, .iadd, 1), (95, .putfield 125, 3), (98, .iinc 4 1, 3), (101, .goto (-48), 3)]) (S2 := (53, [some (.ref 42), some (.int v1), some (.int v2), some (.int v3), some (.int (v4 + (1 : Int32)))], [], (mm_pi (mm_pi M 46 (M.1 42 9).toNatClampNeg (((16 : Int32) * v2) + v4)) 42 9 ((M.1 42 9) + (1 : Int32))))) (by decide +kernel) (hO := mm_own_139) rfl ?_
      cases h
      exact (show mp_139_53 L xs (d + 1) v1 v2 v3 (v4 + (1 : Int32)) (mm_pi (mm_pi M 46 (M.1 42 9).toNatClampNeg (((16 : Int32) * v2) + v4)) 42 9 ((M.1 42 9) + (1 : Int32))) o from hA)
  · replace h := mm_iq hc h
    cases h
    exact (show mp_139_104 L xs (d + 1) v1 v2 M o from hA) (some (.int v3)) (some (.int v4))
theorem ms_139_L53 {L : Nat} {xs : Nat → Int32} {d : Nat} (hd : 9 ≤ d) {v1 : Int32} {v2 : Int32} {v3 : Int32} {v4 : Int32} {β : Type} {K : β → mm_M → mm_E → Prop} {F : (Unit) → mm_M → mm_O β} {M : mm_M} {q : (β ⊕ Nat) × mm_M} {o : mm_E} (h : mm_B (mf_139_L53 v1 v2 v3 v4 M) F = some q) (hA : mm_A K q o) (hx : ∀ (r : (Unit)) (M2 : mm_M), F r M2 = some q → (fun r M o => mp_139_104 L xs (d) v1 v2 M o) r M2 o) : mp_139_53 L xs d v1 v2 v3 v4 M o := mm_R_loop (s := v4) (M := M) (P := (fun s M o => mp_139_53 L xs (d) v1 v2 v3 s M o)) (X := (fun r M o => mp_139_104 L xs (d) v1 v2 M o)) h hA (fun s M q hq hA => ms_139_b53 hd hq hA) hx
noncomputable def mf_139_b18 (v1 : Int32) (v2 : Int32) (M : mm_M) : mm_O ((Int32) ⊕ (Unit)) := if v2 < (16 : Int32) then (if ((mm_shr v1 ((15 : Int32) - v2)) &&& (1 : Int32)) = 0 then (mm_B (mf_139_L53 v1 v2 (0 : Int32) (0 : Int32) M) (fun r2 M1 => some (.inl (.inl (v2 + (1 : Int32))), M1))) else (mm_B (mf_46 (16 : Int32) M) (fun r5 M6 => mm_B (mf_139_L53 v1 v2 r5.toInt32 (0 : Int32) M6) (fun r8 M7 => some (.inl (.inl (v2 + (1 : Int32))), M7))))) else (some (.inl (.inr ()), M))
noncomputable def mf_139_L18 (v1 : Int32) (s : Int32) (M : mm_M) : mm_O (Unit) := mm_L (fun s M => mf_139_b18 v1 s M) s M
set_option maxRecDepth 8000 in
set_option maxHeartbeats 4000000 in
theorem ms_139_b18 {L : Nat} {xs : Nat → Int32} {d : Nat} (hd : 9 ≤ d) {v1 : Int32} {v2 : Int32} {M : mm_M} {q : (((Int32) ⊕ (Unit)) ⊕ Nat) × mm_M} {o : mm_E} (h : mf_139_b18 v1 v2 M = some q) (hA : mm_A (mm_K2 (fun s M o => mp_139_18 L xs (d) v1 s M o) (fun r M o => mp_139_110 L xs (d) M o)) q o) : mp_139_18 L xs d v1 v2 M o := by
  unfold mf_139_b18 at h
  obtain ⟨d, rfl⟩ := mm_d1 (n := 8) hd
  intro z3 z4
  show mm_Runs L xs (d + 1) 139 (18, [some (.ref 42), some (.int v1), some (.int v2), z3, z4], [], M) o
  refine mm_Runs.seq (l := [(18, .iload_n 2, 1), (19, .bipush 16, 2)]) (S2 := (21, [some (.ref 42), some (.int v1), some (.int v2), z3, z4], [.int (16 : Int32), .int v2], M)) (by decide +kernel) (hO := mm_own_139) rfl ?_
  refine mm_R_ige (t := 110) rfl rfl rfl (fun hc => ?_) (fun hc => ?_)
  · replace h := mm_ip hc h
    refine mm_Runs.seq (l := [(24, .iload_n 1, 1), (25, .bipush 15, 2), (27, .iload_n 2, 1), (28, .isub, 1), (29, .ishr, 1), (30, .iconst 1, 1), (31, .iand, 1)]) (S2 := (32, [some (.ref 42), some (.int v1), some (.int v2), z3, z4], [.int ((mm_shr v1 ((15 : Int32) - v2)) &&& (1 : Int32))], M)) (by decide +kernel) (hO := mm_own_139) rfl ?_
    refine mm_R_zeq (t := 48) rfl rfl rfl (fun hc => ?_) (fun hc => ?_)
    · replace h := mm_ip hc h
      refine mm_Runs.seq (l := [(48, .iconst 0, 1), (49, .istore_n 3, 1), (50, .iconst 0, 1), (51, .istore 4, 2)]) (S2 := (53, [some (.ref 42), some (.int v1), some (.int v2), some (.int (0 : Int32)), some (.int (0 : Int32))], [], M)) (by decide +kernel) (hO := mm_own_139) rfl ?_
      have hp : mp_139_53 L xs (d + 1) v1 v2 (0 : Int32) (0 : Int32) M o := by
        refine ms_139_L53 hd h hA (fun r2 M1 h => ?_)
        intro y3 y4
        show mm_Runs L xs (d + 1) 139 (104, [some (.ref 42), some (.int v1), some (.int v2), y3, y4], [], M1) o
        refine mm_Runs.seq (l := [(104, .iinc 2 1, 3), (107, .goto (-89), 3)]) (S2 := (18, [some (.ref 42), some (.int v1), some (.int (v2 + (1 : Int32))), y3, y4], [], M1)) (by decide +kernel) (hO := mm_own_139) rfl ?_
        cases h
        exact (show mp_139_18 L xs (d + 1) v1 (v2 + (1 : Int32)) M1 o from hA) y3 y4
      exact hp
    · replace h := mm_iq hc h
      refine mm_Runs.seq (l := [(35, .aload_n 0, 1), (36, .getfield 36, 3), (39, .bipush 16, 2)]) (S2 := (41, [some (.ref 42), some (.int v1), some (.int v2), z3, z4], [.int (16 : Int32), .ref 1], M)) (by decide +kernel) (hO := mm_own_139) rfl ?_
      refine mm_R_call (v := mm_wl) h hA (k2 := 46) (as := [.ref 1, .int (16 : Int32)]) (r := []) rfl (fun _ => rfl) (fun q hq o ho => ms_46 (by omega) hq ho) (fun r5 M6 h => ?_)
      show mm_Runs L xs (d + 1) 139 (44, [some (.ref 42), some (.int v1), some (.int v2), z3, z4], [.long r5], M6) o
      refine mm_Runs.seq (l := [(44, .l2i, 1), (45, .goto 4, 3), (49, .istore_n 3, 1), (50, .iconst 0, 1), (51, .istore 4, 2)]) (S2 := (53, [some (.ref 42), some (.int v1), some (.int v2), some (.int r5.toInt32), some (.int (0 : Int32))], [], M6)) (by decide +kernel) (hO := mm_own_139) rfl ?_
      have hp : mp_139_53 L xs (d + 1) v1 v2 r5.toInt32 (0 : Int32) M6 o := by
        refine ms_139_L53 hd h hA (fun r8 M7 h => ?_)
        intro y9 y10
        show mm_Runs L xs (d + 1) 139 (104, [some (.ref 42), some (.int v1), some (.int v2), y9, y10], [], M7) o
        refine mm_Runs.seq (l := [(104, .iinc 2 1, 3), (107, .goto (-89), 3)]) (S2 := (18, [some (.ref 42), some (.int v1), some (.int (v2 + (1 : Int32))), y9, y10], [], M7)) (by decide +kernel) (hO := mm_own_139) rfl ?_
        cases h
        exact (show mp_139_18 L xs (d + 1) v1 (v2 + (1 : Int32)) M7 o from hA) y9 y10
      exact hp
  · replace h := mm_iq hc h
    cases h
    exact (show mp_139_110 L xs (d + 1) M o from hA) (some (.int v1)) (some (.int v2)) z3 z4
theorem ms_139_L18 {L : Nat} {xs : Nat → Int32} {d : Nat} (hd : 9 ≤ d) {v1 : Int32} {v2 : Int32} {β : Type} {K : β → mm_M → mm_E → Prop} {F : (Unit) → mm_M → mm_O β} {M : mm_M} {q : (β ⊕ Nat) × mm_M} {o : mm_E} (h : mm_B (mf_139_L18 v1 v2 M) F = some q) (hA : mm_A K q o) (hx : ∀ (r : (Unit)) (M2 : mm_M), F r M2 = some q → (fun r M o => mp_139_110 L xs (d) M o) r M2 o) : mp_139_18 L xs d v1 v2 M o := mm_R_loop (s := v2) (M := M) (P := (fun s M o => mp_139_18 L xs (d) v1 s M o)) (X := (fun r M o => mp_139_110 L xs (d) M o)) h hA (fun s M q hq hA => ms_139_b18 hd hq hA) hx
def mp_139_122 (L : Nat) (xs : Nat → Int32) (d : Nat) (s0 : Int32) (M : mm_M) (o : mm_E) : Prop := ∀ z0 z1 z2 z3 z4 : Option Value, mm_Runs L xs d 139 (122, [z0, z1, z2, z3, z4], [.int s0], M) o
noncomputable def mf_139_j122 (s0 : Int32) (M : mm_M) : mm_O Unit := mm_B (mf_27 s0 M) (fun _ M1 => some (.inl (), M1))
set_option maxRecDepth 8000 in
set_option maxHeartbeats 4000000 in
theorem ms_139_j122 {L : Nat} {xs : Nat → Int32} {d : Nat} (hd : 9 ≤ d) {s0 : Int32} {M : mm_M} {q : (Unit ⊕ Nat) × mm_M} {o : mm_E} (h : mf_139_j122 s0 M = some q) (hA : mm_A (mm_Kr mm_wv) q o) : mp_139_122 L xs d s0 M o := by
  unfold mf_139_j122 at h
  obtain ⟨d, rfl⟩ := mm_d1 (n := 8) hd
  intro z0 z1 z2 z3 z4
  show mm_Runs L xs (d + 1) 139 (122, [z0, z1, z2, z3, z4], [.int s0], M) o
  refine mm_R_call (v := mm_wv) h hA (k2 := 27) (as := [.int s0]) (r := []) rfl (fun _ => rfl) (fun q hq o ho => ms_27 (by omega) hq ho) (fun _ M1 h => ?_)
  show mm_Runs L xs (d + 1) 139 (125, [z0, z1, z2, z3, z4], [], M1) o
  cases h
  exact mm_R_retv rfl rfl hA
noncomputable def mf_139_j110 (M : mm_M) : mm_O Unit := if (M.1 42 9) = 0 then (mf_139_j122 (1 : Int32) M) else (mf_139_j122 (0 : Int32) M)
set_option maxRecDepth 8000 in
set_option maxHeartbeats 4000000 in
theorem ms_139_j110 {L : Nat} {xs : Nat → Int32} {d : Nat} (hd : 9 ≤ d) {M : mm_M} {q : (Unit ⊕ Nat) × mm_M} {o : mm_E} (h : mf_139_j110 M = some q) (hA : mm_A (mm_Kr mm_wv) q o) : mp_139_110 L xs d M o := by
  unfold mf_139_j110 at h
  obtain ⟨d, rfl⟩ := mm_d1 (n := 8) hd
  intro z1 z2 z3 z4
  show mm_Runs L xs (d + 1) 139 (110, [some (.ref 42), z1, z2, z3, z4], [], M) o
  refine mm_Runs.seq (l := [(110, .aload_n 0, 1), (111, .getfield 125, 3)]) (S2 := (114, [some (.ref 42), z1, z2, z3, z4], [.int (M.1 42 9)], M)) (by decide +kernel) (hO := mm_own_139) rfl ?_
  refine mm_R_zne (t := 121) rfl rfl rfl (fun hc => ?_) (fun hc => ?_)
  · replace h := mm_ip hc h
    refine mm_Runs.seq (l := [(117, .iconst 1, 1), (118, .goto 4, 3)]) (S2 := (122, [some (.ref 42), z1, z2, z3, z4], [.int (1 : Int32)], M)) (by decide +kernel) (hO := mm_own_139) rfl ?_
    exact (ms_139_j122 hd h hA : mp_139_122 L xs (d + 1) (1 : Int32) M o) (some (.ref 42)) z1 z2 z3 z4
  · replace h := mm_iq hc h
    refine mm_Runs.seq (l := [(121, .iconst 0, 1)]) (S2 := (122, [some (.ref 42), z1, z2, z3, z4], [.int (0 : Int32)], M)) (by decide +kernel) (hO := mm_own_139) rfl ?_
    exact (ms_139_j122 hd h hA : mp_139_122 L xs (d + 1) (0 : Int32) M o) (some (.ref 42)) z1 z2 z3 z4
noncomputable def mf_139 (M : mm_M) : mm_O Unit := mm_B (mf_46 (16 : Int32) M) (fun r1 M2 => mm_B (mf_139_L18 r1.toInt32 (0 : Int32) (mm_pi M2 42 9 (0 : Int32))) (fun r4 M3 => mf_139_j110 M3))
set_option maxRecDepth 8000 in
set_option maxHeartbeats 4000000 in
theorem ms_139 {L : Nat} {xs : Nat → Int32} {d : Nat} (hd : 9 ≤ d) {M : mm_M} {q : (Unit ⊕ Nat) × mm_M} {o : mm_E} (h : mf_139 M = some q) (hA : mm_A (mm_Kr mm_wv) q o) : mm_Runs L xs d 139 (0, mm_ent (mm_ml 139) [.ref 42], [], M) o := by
  unfold mf_139 at h
  obtain ⟨d, rfl⟩ := mm_d1 (n := 8) hd
  show mm_Runs L xs (d + 1) 139 (0, [some (.ref 42), none, none, none, none], [], M) o
  refine mm_Runs.seq (l := [(0, .aload_n 0, 1), (1, .getfield 36, 3), (4, .bipush 16, 2)]) (S2 := (6, [some (.ref 42), none, none, none, none], [.int (16 : Int32), .ref 1], M)) (by decide +kernel) (hO := mm_own_139) rfl ?_
  refine mm_R_call (v := mm_wl) h hA (k2 := 46) (as := [.ref 1, .int (16 : Int32)]) (r := []) rfl (fun _ => rfl) (fun q hq o ho => ms_46 (by omega) hq ho) (fun r1 M2 h => ?_)
  show mm_Runs L xs (d + 1) 139 (9, [some (.ref 42), none, none, none, none], [.long r1], M2) o
  refine mm_Runs.seq (l := [(9, .l2i, 1), (10, .istore_n 1, 1), (11, .aload_n 0, 1), (12, .iconst 0, 1), (13, .putfield 125, 3), (16, .iconst 0, 1), (17, .istore_n 2, 1)]) (S2 := (18, [some (.ref 42), some (.int r1.toInt32), some (.int (0 : Int32)), none, none], [], (mm_pi M2 42 9 (0 : Int32)))) (by decide +kernel) (hO := mm_own_139) rfl ?_
  have hp : mp_139_18 L xs (d + 1) r1.toInt32 (0 : Int32) (mm_pi M2 42 9 (0 : Int32)) o := by
    refine ms_139_L18 hd h hA (fun r4 M3 h => ?_)
    intro y5 y6 y7 y8
    show mm_Runs L xs (d + 1) 139 (110, [some (.ref 42), y5, y6, y7, y8], [], M3) o
    exact (ms_139_j110 hd h hA : mp_139_110 L xs (d + 1) M3 o) y5 y6 y7 y8
  exact hp none none
-- 141: PlainPacks$Sorted.moveToFront([II)V (depth 0)
theorem mm_own_141 : mm_own 141 = 10 := rfl
def mp_141_17 (L : Nat) (xs : Nat → Int32) (p : Nat) (n : Nat) (d : Nat) (v2 : Int32) (v3 : Int32) (M : mm_M) (o : mm_E) : Prop := ∀ z1 : Option Value, mm_Runs L xs d 141 (17, [some (.ref p), z1, some (.int v2), some (.int v3)], [], M) o
def mp_141_35 (L : Nat) (xs : Nat → Int32) (p : Nat) (n : Nat) (d : Nat) (v2 : Int32) (M : mm_M) (o : mm_E) : Prop := ∀ z1 z3 : Option Value, mm_Runs L xs d 141 (35, [some (.ref p), z1, some (.int v2), z3], [], M) o
noncomputable def mf_141_b17 (p : Nat) (n : Nat) (v2 : Int32) (v3 : Int32) (M : mm_M) : mm_O ((Int32) ⊕ (Unit)) := if 0 < v3 then (if mm_in (v3 - (1 : Int32)) n then if mm_in v3 n then some (.inl (.inl (v3 + (-1 : Int32))), (mm_pi M p v3.toNatClampNeg (M.1 p (v3 - (1 : Int32)).toNatClampNeg))) else none else none) else (some (.inl (.inr ()), M))
noncomputable def mf_141_L17 (p : Nat) (n : Nat) (v2 : Int32) (s : Int32) (M : mm_M) : mm_O (Unit) := mm_L (fun s M => mf_141_b17 p n v2 s M) s M
set_option maxRecDepth 8000 in
set_option maxHeartbeats 4000000 in
theorem ms_141_b17 {L : Nat} {xs : Nat → Int32} {p : Nat} {n : Nat} {d : Nat} (ha : mm_aat 0 p = some n) (hd : 0 ≤ d) {v2 : Int32} {v3 : Int32} {M : mm_M} {q : (((Int32) ⊕ (Unit)) ⊕ Nat) × mm_M} {o : mm_E} (h : mf_141_b17 p n v2 v3 M = some q) (hA : mm_A (mm_K2 (fun s M o => mp_141_17 L xs p n (d) v2 s M o) (fun r M o => mp_141_35 L xs p n (d) v2 M o)) q o) : mp_141_17 L xs p n d v2 v3 M o := by
  unfold mf_141_b17 at h
  intro z1
  show mm_Runs L xs (d) 141 (17, [some (.ref p), z1, some (.int v2), some (.int v3)], [], M) o
  refine mm_Runs.seq (l := [(17, .iload_n 3, 1)]) (S2 := (18, [some (.ref p), z1, some (.int v2), some (.int v3)], [.int v3], M)) (by decide +kernel) (hO := mm_own_141) rfl ?_
  refine mm_R_zle (t := 35) rfl rfl rfl (fun hc => ?_) (fun hc => ?_)
  · replace h := mm_ip hc h
    refine mm_Runs.seq (l := [(21, .aload_n 0, 1), (22, .iload_n 3, 1), (23, .aload_n 0, 1), (24, .iload_n 3, 1), (25, .iconst 1, 1), (26, .isub, 1)]) (S2 := (27, [some (.ref p), z1, some (.int v2), some (.int v3)], [.int (v3 - (1 : Int32)), .ref p, .int v3, .ref p], M)) (by decide +kernel) (hO := mm_own_141) rfl ?_
    obtain ⟨hb, h⟩ := mm_gd h
    refine mm_R_iald rfl ha hb ?_
    obtain ⟨hb, h⟩ := mm_gd h
    refine mm_R_iast rfl ha hb ?_
    refine mm_Runs.seq (l := [(29, .iinc 3 (-1), 3), (32, .goto (-15), 3)]) (S2 := (17, [some (.ref p), z1, some (.int v2), some (.int (v3 + (-1 : Int32)))], [], (mm_pi M p v3.toNatClampNeg (M.1 p (v3 - (1 : Int32)).toNatClampNeg)))) (by decide +kernel) (hO := mm_own_141) rfl ?_
    cases h
    exact (show mp_141_17 L xs p n (d) v2 (v3 + (-1 : Int32)) (mm_pi M p v3.toNatClampNeg (M.1 p (v3 - (1 : Int32)).toNatClampNeg)) o from hA) z1
  · replace h := mm_iq hc h
    cases h
    exact (show mp_141_35 L xs p n (d) v2 M o from hA) z1 (some (.int v3))
theorem ms_141_L17 {L : Nat} {xs : Nat → Int32} {p : Nat} {n : Nat} {d : Nat} (ha : mm_aat 0 p = some n) (hd : 0 ≤ d) {v2 : Int32} {v3 : Int32} {β : Type} {K : β → mm_M → mm_E → Prop} {F : (Unit) → mm_M → mm_O β} {M : mm_M} {q : (β ⊕ Nat) × mm_M} {o : mm_E} (h : mm_B (mf_141_L17 p n v2 v3 M) F = some q) (hA : mm_A K q o) (hx : ∀ (r : (Unit)) (M2 : mm_M), F r M2 = some q → (fun r M o => mp_141_35 L xs p n (d) v2 M o) r M2 o) : mp_141_17 L xs p n d v2 v3 M o := mm_R_loop (s := v3) (M := M) (P := (fun s M o => mp_141_17 L xs p n (d) v2 s M o)) (X := (fun r M o => mp_141_35 L xs p n (d) v2 M o)) h hA (fun s M q hq hA => ms_141_b17 ha hd hq hA) hx
noncomputable def mf_141_j35 (p : Nat) (n : Nat) (v2 : Int32) (M : mm_M) : mm_O Unit := if mm_in (0 : Int32) n then some (.inl (), (mm_pi M p (0 : Int32).toNatClampNeg v2)) else none
set_option maxRecDepth 8000 in
set_option maxHeartbeats 4000000 in
theorem ms_141_j35 {L : Nat} {xs : Nat → Int32} {p : Nat} {n : Nat} {d : Nat} (ha : mm_aat 0 p = some n) (hd : 0 ≤ d) {v2 : Int32} {M : mm_M} {q : (Unit ⊕ Nat) × mm_M} {o : mm_E} (h : mf_141_j35 p n v2 M = some q) (hA : mm_A (mm_Kr mm_wv) q o) : mp_141_35 L xs p n d v2 M o := by
  unfold mf_141_j35 at h
  intro z1 z3
  show mm_Runs L xs (d) 141 (35, [some (.ref p), z1, some (.int v2), z3], [], M) o
  refine mm_Runs.seq (l := [(35, .aload_n 0, 1), (36, .iconst 0, 1), (37, .iload_n 2, 1)]) (S2 := (38, [some (.ref p), z1, some (.int v2), z3], [.int v2, .int (0 : Int32), .ref p], M)) (by decide +kernel) (hO := mm_own_141) rfl ?_
  obtain ⟨hb, h⟩ := mm_gd h
  refine mm_R_iast rfl ha hb ?_
  cases h
  exact mm_R_retv rfl rfl hA
noncomputable def mf_141 (p : Nat) (n : Nat) (v1 : Int32) (M : mm_M) : mm_O Unit := if v1 < 0 then (some (.inl (), M)) else (if v1 < (Int32.ofNat n) then (if mm_in v1 n then mm_B (mf_141_L17 p n (M.1 p v1.toNatClampNeg) v1 M) (fun r2 M1 => mf_141_j35 p n (M.1 p v1.toNatClampNeg) M1) else none) else (some (.inl (), M)))
set_option maxRecDepth 8000 in
set_option maxHeartbeats 4000000 in
theorem ms_141 {L : Nat} {xs : Nat → Int32} {p : Nat} {n : Nat} {d : Nat} (ha : mm_aat 0 p = some n) (hd : 0 ≤ d) {v1 : Int32} {M : mm_M} {q : (Unit ⊕ Nat) × mm_M} {o : mm_E} (h : mf_141 p n v1 M = some q) (hA : mm_A (mm_Kr mm_wv) q o) : mm_Runs L xs d 141 (0, mm_ent (mm_ml 141) [.ref p, .int v1], [], M) o := by
  unfold mf_141 at h
  show mm_Runs L xs (d) 141 (0, [some (.ref p), some (.int v1), none, none], [], M) o
  refine mm_Runs.seq (l := [(0, .iload_n 1, 1)]) (S2 := (1, [some (.ref p), some (.int v1), none, none], [.int v1], M)) (by decide +kernel) (hO := mm_own_141) rfl ?_
  refine mm_R_zlt (t := 10) rfl rfl rfl (fun hc => ?_) (fun hc => ?_)
  · replace h := mm_ip hc h
    cases h
    exact mm_R_retv rfl rfl hA
  · replace h := mm_iq hc h
    refine mm_Runs.seq (l := [(4, .iload_n 1, 1), (5, .aload_n 0, 1)]) (S2 := (6, [some (.ref p), some (.int v1), none, none], [.ref p, .int v1], M)) (by decide +kernel) (hO := mm_own_141) rfl ?_
    refine mm_R_alen rfl ha ?_
    refine mm_R_ilt (t := 11) rfl rfl rfl (fun hc => ?_) (fun hc => ?_)
    · replace h := mm_ip hc h
      refine mm_Runs.seq (l := [(11, .aload_n 0, 1), (12, .iload_n 1, 1)]) (S2 := (13, [some (.ref p), some (.int v1), none, none], [.int v1, .ref p], M)) (by decide +kernel) (hO := mm_own_141) rfl ?_
      obtain ⟨hb, h⟩ := mm_gd h
      refine mm_R_iald rfl ha hb ?_
      refine mm_Runs.seq (l := [(14, .istore_n 2, 1), (15, .iload_n 1, 1), (16, .istore_n 3, 1)]) (S2 := (17, [some (.ref p), some (.int v1), some (.int (M.1 p v1.toNatClampNeg)), some (.int v1)], [], M)) (by decide +kernel) (hO := mm_own_141) rfl ?_
      have hp : mp_141_17 L xs p n (d) (M.1 p v1.toNatClampNeg) v1 M o := by
        refine ms_141_L17 ha hd h hA (fun r2 M1 h => ?_)
        intro y3 y4
        show mm_Runs L xs (d) 141 (35, [some (.ref p), y3, some (.int (M.1 p v1.toNatClampNeg)), y4], [], M1) o
        exact (ms_141_j35 ha hd h hA : mp_141_35 L xs p n (d) (M.1 p v1.toNatClampNeg) M1 o) y3 y4
      exact hp (some (.int v1))
    · replace h := mm_iq hc h
      cases h
      exact mm_R_retv rfl rfl hA
-- 140: PlainPacks$Sorted.readSelectors(I)V (depth 9)
theorem mm_own_140 : mm_own 140 = 10 := rfl
def mp_140_27 (L : Nat) (xs : Nat → Int32) (d : Nat) (v1 : Int32) (s0 : Int32) (M : mm_M) (o : mm_E) : Prop := ∀ z2 z3 : Option Value, mm_Runs L xs d 140 (27, [some (.ref 42), some (.int v1), z2, z3], [.int s0], M) o
def mp_140_32 (L : Nat) (xs : Nat → Int32) (d : Nat) (v1 : Int32) (v2 : Int32) (M : mm_M) (o : mm_E) : Prop := ∀ z3 : Option Value, mm_Runs L xs d 140 (32, [some (.ref 42), some (.int v1), some (.int v2), z3], [], M) o
def mp_140_51 (L : Nat) (xs : Nat → Int32) (d : Nat) (v1 : Int32) (M : mm_M) (o : mm_E) : Prop := ∀ z2 z3 : Option Value, mm_Runs L xs d 140 (51, [some (.ref 42), some (.int v1), z2, z3], [], M) o
noncomputable def mf_140_b32 (v1 : Int32) (v2 : Int32) (M : mm_M) : mm_O ((Int32) ⊕ (Unit)) := if v2 < (6 : Int32) then (if mm_in v2 6 then some (.inl (.inl (v2 + (1 : Int32))), (mm_pi M 44 v2.toNatClampNeg v2)) else none) else (some (.inl (.inr ()), M))
noncomputable def mf_140_L32 (v1 : Int32) (s : Int32) (M : mm_M) : mm_O (Unit) := mm_L (fun s M => mf_140_b32 v1 s M) s M
set_option maxRecDepth 8000 in
set_option maxHeartbeats 4000000 in
theorem ms_140_b32 {L : Nat} {xs : Nat → Int32} {d : Nat} (hd : 9 ≤ d) {v1 : Int32} {v2 : Int32} {M : mm_M} {q : (((Int32) ⊕ (Unit)) ⊕ Nat) × mm_M} {o : mm_E} (h : mf_140_b32 v1 v2 M = some q) (hA : mm_A (mm_K2 (fun s M o => mp_140_32 L xs (d) v1 s M o) (fun r M o => mp_140_51 L xs (d) v1 M o)) q o) : mp_140_32 L xs d v1 v2 M o := by
  unfold mf_140_b32 at h
  obtain ⟨d, rfl⟩ := mm_d1 (n := 8) hd
  intro z3
  show mm_Runs L xs (d + 1) 140 (32, [some (.ref 42), some (.int v1), some (.int v2), z3], [], M) o
  refine mm_Runs.seq (l := [(32, .iload_n 2, 1), (33, .bipush 6, 2)]) (S2 := (35, [some (.ref 42), some (.int v1), some (.int v2), z3], [.int (6 : Int32), .int v2], M)) (by decide +kernel) (hO := mm_own_140) rfl ?_
  refine mm_R_ige (t := 51) rfl rfl rfl (fun hc => ?_) (fun hc => ?_)
  · replace h := mm_ip hc h
    refine mm_Runs.seq (l := [(38, .aload_n 0, 1), (39, .getfield 17, 3), (42, .iload_n 2, 1), (43, .iload_n 2, 1)]) (S2 := (44, [some (.ref 42), some (.int v1), some (.int v2), z3], [.int v2, .int v2, .ref 44], M)) (by decide +kernel) (hO := mm_own_140) rfl ?_
    obtain ⟨hb, h⟩ := mm_gd h
    refine mm_R_iast rfl rfl hb ?_
    refine mm_Runs.seq (l := [(45, .iinc 2 1, 3), (48, .goto (-16), 3)]) (S2 := (32, [some (.ref 42), some (.int v1), some (.int (v2 + (1 : Int32))), z3], [], (mm_pi M 44 v2.toNatClampNeg v2))) (by decide +kernel) (hO := mm_own_140) rfl ?_
    cases h
    exact (show mp_140_32 L xs (d + 1) v1 (v2 + (1 : Int32)) (mm_pi M 44 v2.toNatClampNeg v2) o from hA) z3
  · replace h := mm_iq hc h
    cases h
    exact (show mp_140_51 L xs (d + 1) v1 M o from hA) (some (.int v2)) z3
theorem ms_140_L32 {L : Nat} {xs : Nat → Int32} {d : Nat} (hd : 9 ≤ d) {v1 : Int32} {v2 : Int32} {β : Type} {K : β → mm_M → mm_E → Prop} {F : (Unit) → mm_M → mm_O β} {M : mm_M} {q : (β ⊕ Nat) × mm_M} {o : mm_E} (h : mm_B (mf_140_L32 v1 v2 M) F = some q) (hA : mm_A K q o) (hx : ∀ (r : (Unit)) (M2 : mm_M), F r M2 = some q → (fun r M o => mp_140_51 L xs (d) v1 M o) r M2 o) : mp_140_32 L xs d v1 v2 M o := mm_R_loop (s := v2) (M := M) (P := (fun s M o => mp_140_32 L xs (d) v1 s M o)) (X := (fun r M o => mp_140_51 L xs (d) v1 M o)) h hA (fun s M q hq hA => ms_140_b32 hd hq hA) hx
def mp_140_53 (L : Nat) (xs : Nat → Int32) (d : Nat) (v1 : Int32) (v2 : Int32) (M : mm_M) (o : mm_E) : Prop := ∀ z3 : Option Value, mm_Runs L xs d 140 (53, [some (.ref 42), some (.int v1), some (.int v2), z3], [], M) o
def mp_140_131 (L : Nat) (xs : Nat → Int32) (d : Nat) (M : mm_M) (o : mm_E) : Prop := ∀ z0 z1 z2 z3 : Option Value, mm_Runs L xs d 140 (131, [z0, z1, z2, z3], [], M) o
def mp_140_63 (L : Nat) (xs : Nat → Int32) (d : Nat) (v1 : Int32) (v2 : Int32) (v3 : Int32) (M : mm_M) (o : mm_E) : Prop := mm_Runs L xs d 140 (63, [some (.ref 42), some (.int v1), some (.int v2), some (.int v3)], [], M) o
def mp_140_85 (L : Nat) (xs : Nat → Int32) (d : Nat) (v1 : Int32) (v2 : Int32) (v3 : Int32) (M : mm_M) (o : mm_E) : Prop := mm_Runs L xs d 140 (85, [some (.ref 42), some (.int v1), some (.int v2), some (.int v3)], [], M) o
noncomputable def mf_140_b63 (v1 : Int32) (v2 : Int32) (v3 : Int32) (M : mm_M) : mm_O ((Int32) ⊕ (Int32)) := if v3 < v1 then (mm_B (mf_45 M) (fun r1 M2 => if r1 = (1 : Int32) then (some (.inl (.inl (v3 + (1 : Int32))), M2)) else (some (.inl (.inr v3), M2)))) else (some (.inl (.inr v3), M))
noncomputable def mf_140_L63 (v1 : Int32) (v2 : Int32) (s : Int32) (M : mm_M) : mm_O (Int32) := mm_L (fun s M => mf_140_b63 v1 v2 s M) s M
set_option maxRecDepth 8000 in
set_option maxHeartbeats 4000000 in
theorem ms_140_b63 {L : Nat} {xs : Nat → Int32} {d : Nat} (hd : 9 ≤ d) {v1 : Int32} {v2 : Int32} {v3 : Int32} {M : mm_M} {q : (((Int32) ⊕ (Int32)) ⊕ Nat) × mm_M} {o : mm_E} (h : mf_140_b63 v1 v2 v3 M = some q) (hA : mm_A (mm_K2 (fun s M o => mp_140_63 L xs (d) v1 v2 s M o) (fun r M o => mp_140_85 L xs (d) v1 v2 r M o)) q o) : mp_140_63 L xs d v1 v2 v3 M o := by
  unfold mf_140_b63 at h
  obtain ⟨d, rfl⟩ := mm_d1 (n := 8) hd
  show mm_Runs L xs (d + 1) 140 (63, [some (.ref 42), some (.int v1), some (.int v2), some (.int v3)], [], M) o
  refine mm_Runs.seq (l := [(63, .iload_n 3, 1), (64, .iload_n 1, 1)]) (S2 := (65, [some (.ref 42), some (.int v1), some (.int v2), some (.int v3)], [.int v1, .int v3], M)) (by decide +kernel) (hO := mm_own_140) rfl ?_
  refine mm_R_ige (t := 85) rfl rfl rfl (fun hc => ?_) (fun hc => ?_)
  · replace h := mm_ip hc h
    refine mm_Runs.seq (l := [(68, .aload_n 0, 1), (69, .getfield 36, 3)]) (S2 := (72, [some (.ref 42), some (.int v1), some (.int v2), some (.int v3)], [.ref 1], M)) (by decide +kernel) (hO := mm_own_140) rfl ?_
    refine mm_R_call (v := mm_wi) h hA (k2 := 45) (as := [.ref 1]) (r := []) rfl (fun _ => rfl) (fun q hq o ho => ms_45 (by omega) hq ho) (fun r1 M2 h => ?_)
    show mm_Runs L xs (d + 1) 140 (75, [some (.ref 42), some (.int v1), some (.int v2), some (.int v3)], [.int r1], M2) o
    refine mm_Runs.seq (l := [(75, .iconst 1, 1)]) (S2 := (76, [some (.ref 42), some (.int v1), some (.int v2), some (.int v3)], [.int (1 : Int32), .int r1], M2)) (by decide +kernel) (hO := mm_own_140) rfl ?_
    refine mm_R_ine (t := 85) rfl rfl rfl (fun hc => ?_) (fun hc => ?_)
    · replace h := mm_ip hc h
      refine mm_Runs.seq (l := [(79, .iinc 3 1, 3), (82, .goto (-19), 3)]) (S2 := (63, [some (.ref 42), some (.int v1), some (.int v2), some (.int (v3 + (1 : Int32)))], [], M2)) (by decide +kernel) (hO := mm_own_140) rfl ?_
      cases h
      exact (show mp_140_63 L xs (d + 1) v1 v2 (v3 + (1 : Int32)) M2 o from hA)
    · replace h := mm_iq hc h
      cases h
      exact (show mp_140_85 L xs (d + 1) v1 v2 v3 M2 o from hA)
  · replace h := mm_iq hc h
    cases h
    exact (show mp_140_85 L xs (d + 1) v1 v2 v3 M o from hA)
theorem ms_140_L63 {L : Nat} {xs : Nat → Int32} {d : Nat} (hd : 9 ≤ d) {v1 : Int32} {v2 : Int32} {v3 : Int32} {β : Type} {K : β → mm_M → mm_E → Prop} {F : (Int32) → mm_M → mm_O β} {M : mm_M} {q : (β ⊕ Nat) × mm_M} {o : mm_E} (h : mm_B (mf_140_L63 v1 v2 v3 M) F = some q) (hA : mm_A K q o) (hx : ∀ (r : (Int32)) (M2 : mm_M), F r M2 = some q → (fun r M o => mp_140_85 L xs (d) v1 v2 r M o) r M2 o) : mp_140_63 L xs d v1 v2 v3 M o := mm_R_loop (s := v3) (M := M) (P := (fun s M o => mp_140_63 L xs (d) v1 v2 s M o)) (X := (fun r M o => mp_140_85 L xs (d) v1 v2 r M o)) h hA (fun s M q hq hA => ms_140_b63 hd hq hA) hx
def mp_140_95 (L : Nat) (xs : Nat → Int32) (d : Nat) (v1 : Int32) (v2 : Int32) (v3 : Int32) (s0 : Int32) (M : mm_M) (o : mm_E) : Prop := mm_Runs L xs d 140 (95, [some (.ref 42), some (.int v1), some (.int v2), some (.int v3)], [.int s0], M) o
noncomputable def mf_140_j95 (v1 : Int32) (v2 : Int32) (v3 : Int32) (s0 : Int32) (M : mm_M) : mm_O ((Int32) ⊕ (Unit)) := mm_B (mf_27 s0 M) (fun _ M1 => mm_B (mf_141 44 6 v3 M1) (fun _ M2 => if v2 < (1601 : Int32) then (if mm_in (0 : Int32) 6 then if mm_in v2 1601 then some (.inl (.inl (v2 + (1 : Int32))), (mm_pi M2 45 v2.toNatClampNeg (M2.1 44 (0 : Int32).toNatClampNeg))) else none else none) else (some (.inl (.inl (v2 + (1 : Int32))), M2))))
set_option maxRecDepth 8000 in
set_option maxHeartbeats 4000000 in
theorem ms_140_j95 {L : Nat} {xs : Nat → Int32} {d : Nat} (hd : 9 ≤ d) {v1 : Int32} {v2 : Int32} {v3 : Int32} {s0 : Int32} {M : mm_M} {q : (((Int32) ⊕ (Unit)) ⊕ Nat) × mm_M} {o : mm_E} (h : mf_140_j95 v1 v2 v3 s0 M = some q) (hA : mm_A (mm_K2 (fun s M o => mp_140_53 L xs (d) v1 s M o) (fun r M o => mp_140_131 L xs (d) M o)) q o) : mp_140_95 L xs d v1 v2 v3 s0 M o := by
  unfold mf_140_j95 at h
  obtain ⟨d, rfl⟩ := mm_d1 (n := 8) hd
  show mm_Runs L xs (d + 1) 140 (95, [some (.ref 42), some (.int v1), some (.int v2), some (.int v3)], [.int s0], M) o
  refine mm_R_call (v := mm_wv) h hA (k2 := 27) (as := [.int s0]) (r := []) rfl (fun _ => rfl) (fun q hq o ho => ms_27 (by omega) hq ho) (fun _ M1 h => ?_)
  show mm_Runs L xs (d + 1) 140 (98, [some (.ref 42), some (.int v1), some (.int v2), some (.int v3)], [], M1) o
  refine mm_Runs.seq (l := [(98, .aload_n 0, 1), (99, .getfield 17, 3), (102, .iload_n 3, 1)]) (S2 := (103, [some (.ref 42), some (.int v1), some (.int v2), some (.int v3)], [.int v3, .ref 44], M1)) (by decide +kernel) (hO := mm_own_140) rfl ?_
  refine mm_R_call (v := mm_wv) h hA (k2 := 141) (as := [.ref 44, .int v3]) (r := []) rfl (fun _ => rfl) (fun q hq o ho => ms_141 rfl (by omega) hq ho) (fun _ M2 h => ?_)
  show mm_Runs L xs (d + 1) 140 (106, [some (.ref 42), some (.int v1), some (.int v2), some (.int v3)], [], M2) o
  refine mm_Runs.seq (l := [(106, .iload_n 2, 1), (107, .sipush 1601, 3)]) (S2 := (110, [some (.ref 42), some (.int v1), some (.int v2), some (.int v3)], [.int (1601 : Int32), .int v2], M2)) (by decide +kernel) (hO := mm_own_140) rfl ?_
  refine mm_R_ige (t := 125) rfl rfl rfl (fun hc => ?_) (fun hc => ?_)
  · replace h := mm_ip hc h
    refine mm_Runs.seq (l := [(113, .aload_n 0, 1), (114, .getfield 21, 3), (117, .iload_n 2, 1), (118, .aload_n 0, 1), (119, .getfield 17, 3), (122, .iconst 0, 1)]) (S2 := (123, [some (.ref 42), some (.int v1), some (.int v2), some (.int v3)], [.int (0 : Int32), .ref 44, .int v2, .ref 45], M2)) (by decide +kernel) (hO := mm_own_140) rfl ?_
    obtain ⟨hb, h⟩ := mm_gd h
    refine mm_R_iald rfl rfl hb ?_
    obtain ⟨hb, h⟩ := mm_gd h
    refine mm_R_iast rfl rfl hb ?_
    refine mm_Runs.seq (l := [(125, .iinc 2 1, 3), (128, .goto (-75), 3)]) (S2 := (53, [some (.ref 42), some (.int v1), some (.int (v2 + (1 : Int32))), some (.int v3)], [], (mm_pi M2 45 v2.toNatClampNeg (M2.1 44 (0 : Int32).toNatClampNeg)))) (by decide +kernel) (hO := mm_own_140) rfl ?_
    cases h
    exact (show mp_140_53 L xs (d + 1) v1 (v2 + (1 : Int32)) (mm_pi M2 45 v2.toNatClampNeg (M2.1 44 (0 : Int32).toNatClampNeg)) o from hA) (some (.int v3))
  · replace h := mm_iq hc h
    refine mm_Runs.seq (l := [(125, .iinc 2 1, 3), (128, .goto (-75), 3)]) (S2 := (53, [some (.ref 42), some (.int v1), some (.int (v2 + (1 : Int32))), some (.int v3)], [], M2)) (by decide +kernel) (hO := mm_own_140) rfl ?_
    cases h
    exact (show mp_140_53 L xs (d + 1) v1 (v2 + (1 : Int32)) M2 o from hA) (some (.int v3))
noncomputable def mf_140_j85 (v1 : Int32) (v2 : Int32) (v3 : Int32) (M : mm_M) : mm_O ((Int32) ⊕ (Unit)) := if v3 < v1 then (mf_140_j95 v1 v2 v3 (0 : Int32) M) else (mf_140_j95 v1 v2 v3 (1 : Int32) M)
set_option maxRecDepth 8000 in
set_option maxHeartbeats 4000000 in
theorem ms_140_j85 {L : Nat} {xs : Nat → Int32} {d : Nat} (hd : 9 ≤ d) {v1 : Int32} {v2 : Int32} {v3 : Int32} {M : mm_M} {q : (((Int32) ⊕ (Unit)) ⊕ Nat) × mm_M} {o : mm_E} (h : mf_140_j85 v1 v2 v3 M = some q) (hA : mm_A (mm_K2 (fun s M o => mp_140_53 L xs (d) v1 s M o) (fun r M o => mp_140_131 L xs (d) M o)) q o) : mp_140_85 L xs d v1 v2 v3 M o := by
  unfold mf_140_j85 at h
  obtain ⟨d, rfl⟩ := mm_d1 (n := 8) hd
  show mm_Runs L xs (d + 1) 140 (85, [some (.ref 42), some (.int v1), some (.int v2), some (.int v3)], [], M) o
  refine mm_Runs.seq (l := [(85, .iload_n 3, 1), (86, .iload_n 1, 1)]) (S2 := (87, [some (.ref 42), some (.int v1), some (.int v2), some (.int v3)], [.int v1, .int v3], M)) (by decide +kernel) (hO := mm_own_140) rfl ?_
  refine mm_R_ilt (t := 94) rfl rfl rfl (fun hc => ?_) (fun hc => ?_)
  · replace h := mm_ip hc h
    refine mm_Runs.seq (l := [(94, .iconst 0, 1)]) (S2 := (95, [some (.ref 42), some (.int v1), some (.int v2), some (.int v3)], [.int (0 : Int32)], M)) (by decide +kernel) (hO := mm_own_140) rfl ?_
    exact (ms_140_j95 hd h hA : mp_140_95 L xs (d + 1) v1 v2 v3 (0 : Int32) M o)
  · replace h := mm_iq hc h
    refine mm_Runs.seq (l := [(90, .iconst 1, 1), (91, .goto 4, 3)]) (S2 := (95, [some (.ref 42), some (.int v1), some (.int v2), some (.int v3)], [.int (1 : Int32)], M)) (by decide +kernel) (hO := mm_own_140) rfl ?_
    exact (ms_140_j95 hd h hA : mp_140_95 L xs (d + 1) v1 v2 v3 (1 : Int32) M o)
noncomputable def mf_140_b53 (v1 : Int32) (v2 : Int32) (M : mm_M) : mm_O ((Int32) ⊕ (Unit)) := if v2 < (M.1 42 7) then (mm_B (mf_140_L63 v1 v2 (0 : Int32) M) (fun r2 M1 => mf_140_j85 v1 v2 r2 M1)) else (some (.inl (.inr ()), M))
noncomputable def mf_140_L53 (v1 : Int32) (s : Int32) (M : mm_M) : mm_O (Unit) := mm_L (fun s M => mf_140_b53 v1 s M) s M
set_option maxRecDepth 8000 in
set_option maxHeartbeats 4000000 in
theorem ms_140_b53 {L : Nat} {xs : Nat → Int32} {d : Nat} (hd : 9 ≤ d) {v1 : Int32} {v2 : Int32} {M : mm_M} {q : (((Int32) ⊕ (Unit)) ⊕ Nat) × mm_M} {o : mm_E} (h : mf_140_b53 v1 v2 M = some q) (hA : mm_A (mm_K2 (fun s M o => mp_140_53 L xs (d) v1 s M o) (fun r M o => mp_140_131 L xs (d) M o)) q o) : mp_140_53 L xs d v1 v2 M o := by
  unfold mf_140_b53 at h
  obtain ⟨d, rfl⟩ := mm_d1 (n := 8) hd
  intro z3
  show mm_Runs L xs (d + 1) 140 (53, [some (.ref 42), some (.int v1), some (.int v2), z3], [], M) o
  refine mm_Runs.seq (l := [(53, .iload_n 2, 1), (54, .aload_n 0, 1), (55, .getfield 128, 3)]) (S2 := (58, [some (.ref 42), some (.int v1), some (.int v2), z3], [.int (M.1 42 7), .int v2], M)) (by decide +kernel) (hO := mm_own_140) rfl ?_
  refine mm_R_ige (t := 131) rfl rfl rfl (fun hc => ?_) (fun hc => ?_)
  · replace h := mm_ip hc h
    refine mm_Runs.seq (l := [(61, .iconst 0, 1), (62, .istore_n 3, 1)]) (S2 := (63, [some (.ref 42), some (.int v1), some (.int v2), some (.int (0 : Int32))], [], M)) (by decide +kernel) (hO := mm_own_140) rfl ?_
    have hp : mp_140_63 L xs (d + 1) v1 v2 (0 : Int32) M o := by
      refine ms_140_L63 hd h hA (fun r2 M1 h => ?_)
      show mm_Runs L xs (d + 1) 140 (85, [some (.ref 42), some (.int v1), some (.int v2), some (.int r2)], [], M1) o
      exact (ms_140_j85 hd h hA : mp_140_85 L xs (d + 1) v1 v2 r2 M1 o)
    exact hp
  · replace h := mm_iq hc h
    cases h
    exact (show mp_140_131 L xs (d + 1) M o from hA) (some (.ref 42)) (some (.int v1)) (some (.int v2)) z3
theorem ms_140_L53 {L : Nat} {xs : Nat → Int32} {d : Nat} (hd : 9 ≤ d) {v1 : Int32} {v2 : Int32} {β : Type} {K : β → mm_M → mm_E → Prop} {F : (Unit) → mm_M → mm_O β} {M : mm_M} {q : (β ⊕ Nat) × mm_M} {o : mm_E} (h : mm_B (mf_140_L53 v1 v2 M) F = some q) (hA : mm_A K q o) (hx : ∀ (r : (Unit)) (M2 : mm_M), F r M2 = some q → (fun r M o => mp_140_131 L xs (d) M o) r M2 o) : mp_140_53 L xs d v1 v2 M o := mm_R_loop (s := v2) (M := M) (P := (fun s M o => mp_140_53 L xs (d) v1 s M o)) (X := (fun r M o => mp_140_131 L xs (d) M o)) h hA (fun s M q hq hA => ms_140_b53 hd hq hA) hx
noncomputable def mf_140_j27 (v1 : Int32) (s0 : Int32) (M : mm_M) : mm_O Unit := mm_B (mf_27 s0 M) (fun _ M1 => mm_B (mf_140_L32 v1 (0 : Int32) M1) (fun r3 M2 => mm_B (mf_140_L53 v1 (0 : Int32) M2) (fun r7 M6 => some (.inl (), M6))))
set_option maxRecDepth 8000 in
set_option maxHeartbeats 4000000 in
theorem ms_140_j27 {L : Nat} {xs : Nat → Int32} {d : Nat} (hd : 9 ≤ d) {v1 : Int32} {s0 : Int32} {M : mm_M} {q : (Unit ⊕ Nat) × mm_M} {o : mm_E} (h : mf_140_j27 v1 s0 M = some q) (hA : mm_A (mm_Kr mm_wv) q o) : mp_140_27 L xs d v1 s0 M o := by
  unfold mf_140_j27 at h
  obtain ⟨d, rfl⟩ := mm_d1 (n := 8) hd
  intro z2 z3
  show mm_Runs L xs (d + 1) 140 (27, [some (.ref 42), some (.int v1), z2, z3], [.int s0], M) o
  refine mm_R_call (v := mm_wv) h hA (k2 := 27) (as := [.int s0]) (r := []) rfl (fun _ => rfl) (fun q hq o ho => ms_27 (by omega) hq ho) (fun _ M1 h => ?_)
  show mm_Runs L xs (d + 1) 140 (30, [some (.ref 42), some (.int v1), z2, z3], [], M1) o
  refine mm_Runs.seq (l := [(30, .iconst 0, 1), (31, .istore_n 2, 1)]) (S2 := (32, [some (.ref 42), some (.int v1), some (.int (0 : Int32)), z3], [], M1)) (by decide +kernel) (hO := mm_own_140) rfl ?_
  have hp : mp_140_32 L xs (d + 1) v1 (0 : Int32) M1 o := by
    refine ms_140_L32 hd h hA (fun r3 M2 h => ?_)
    intro y4 y5
    show mm_Runs L xs (d + 1) 140 (51, [some (.ref 42), some (.int v1), y4, y5], [], M2) o
    refine mm_Runs.seq (l := [(51, .iconst 0, 1), (52, .istore_n 2, 1)]) (S2 := (53, [some (.ref 42), some (.int v1), some (.int (0 : Int32)), y5], [], M2)) (by decide +kernel) (hO := mm_own_140) rfl ?_
    have hp : mp_140_53 L xs (d + 1) v1 (0 : Int32) M2 o := by
      refine ms_140_L53 hd h hA (fun r7 M6 h => ?_)
      intro y8 y9 y10 y11
      show mm_Runs L xs (d + 1) 140 (131, [y8, y9, y10, y11], [], M6) o
      cases h
      exact mm_R_retv rfl rfl hA
    exact hp y5
  exact hp z3
noncomputable def mf_140 (v1 : Int32) (M : mm_M) : mm_O Unit := mm_B (mf_46 (15 : Int32) M) (fun r1 M2 => if r1.toInt32 < (1 : Int32) then (mf_140_j27 v1 (1 : Int32) (mm_pi M2 42 7 r1.toInt32)) else (mf_140_j27 v1 (0 : Int32) (mm_pi M2 42 7 r1.toInt32)))
set_option maxRecDepth 8000 in
set_option maxHeartbeats 4000000 in
theorem ms_140 {L : Nat} {xs : Nat → Int32} {d : Nat} (hd : 9 ≤ d) {v1 : Int32} {M : mm_M} {q : (Unit ⊕ Nat) × mm_M} {o : mm_E} (h : mf_140 v1 M = some q) (hA : mm_A (mm_Kr mm_wv) q o) : mm_Runs L xs d 140 (0, mm_ent (mm_ml 140) [.ref 42, .int v1], [], M) o := by
  unfold mf_140 at h
  obtain ⟨d, rfl⟩ := mm_d1 (n := 8) hd
  show mm_Runs L xs (d + 1) 140 (0, [some (.ref 42), some (.int v1), none, none], [], M) o
  refine mm_Runs.seq (l := [(0, .aload_n 0, 1), (1, .aload_n 0, 1), (2, .getfield 36, 3), (5, .bipush 15, 2)]) (S2 := (7, [some (.ref 42), some (.int v1), none, none], [.int (15 : Int32), .ref 1, .ref 42], M)) (by decide +kernel) (hO := mm_own_140) rfl ?_
  refine mm_R_call (v := mm_wl) h hA (k2 := 46) (as := [.ref 1, .int (15 : Int32)]) (r := [.ref 42]) rfl (fun _ => rfl) (fun q hq o ho => ms_46 (by omega) hq ho) (fun r1 M2 h => ?_)
  show mm_Runs L xs (d + 1) 140 (10, [some (.ref 42), some (.int v1), none, none], [.long r1, .ref 42], M2) o
  refine mm_Runs.seq (l := [(10, .l2i, 1), (11, .putfield 128, 3), (14, .aload_n 0, 1), (15, .getfield 128, 3), (18, .iconst 1, 1)]) (S2 := (19, [some (.ref 42), some (.int v1), none, none], [.int (1 : Int32), .int r1.toInt32], (mm_pi M2 42 7 r1.toInt32))) (by decide +kernel) (hO := mm_own_140) rfl ?_
  refine mm_R_ige (t := 26) rfl rfl rfl (fun hc => ?_) (fun hc => ?_)
  · replace h := mm_ip hc h
    refine mm_Runs.seq (l := [(22, .iconst 1, 1), (23, .goto 4, 3)]) (S2 := (27, [some (.ref 42), some (.int v1), none, none], [.int (1 : Int32)], (mm_pi M2 42 7 r1.toInt32))) (by decide +kernel) (hO := mm_own_140) rfl ?_
    exact (ms_140_j27 hd h hA : mp_140_27 L xs (d + 1) v1 (1 : Int32) (mm_pi M2 42 7 r1.toInt32) o) none none
  · replace h := mm_iq hc h
    refine mm_Runs.seq (l := [(26, .iconst 0, 1)]) (S2 := (27, [some (.ref 42), some (.int v1), none, none], [.int (0 : Int32)], (mm_pi M2 42 7 r1.toInt32))) (by decide +kernel) (hO := mm_own_140) rfl ?_
    exact (ms_140_j27 hd h hA : mp_140_27 L xs (d + 1) v1 (0 : Int32) (mm_pi M2 42 7 r1.toInt32) o) none none
-- 100: PlainPacks$Codes.isOver()Z (depth 0)
theorem mm_own_100 : mm_own 100 = 7 := rfl
noncomputable def mf_100 (p : Nat) (n : Nat) (M : mm_M) : mm_O Int32 := if (1048576 : Int32) < (M.1 p 5) then (some (.inl (1 : Int32), M)) else (some (.inl (0 : Int32), M))
set_option maxRecDepth 8000 in
set_option maxHeartbeats 4000000 in
theorem ms_100 {L : Nat} {xs : Nat → Int32} {p : Nat} {n : Nat} {d : Nat} (hC : mm_isC p n) (hd : 0 ≤ d) {M : mm_M} {q : (Int32 ⊕ Nat) × mm_M} {o : mm_E} (h : mf_100 p n M = some q) (hA : mm_A (mm_Kr mm_wi) q o) : mm_Runs L xs d 100 (0, mm_ent (mm_ml 100) [.ref p], [], M) o := by
  unfold mf_100 at h
  show mm_Runs L xs (d) 100 (0, [some (.ref p)], [], M) o
  refine mm_Runs.seq (l := [(0, .aload_n 0, 1)]) (S2 := (1, [some (.ref p)], [.ref p], M)) (by decide +kernel) (hO := mm_own_100) rfl ?_
  refine mm_R_getf (ci := 7) (j := 5) (f := .inr .int) rfl rfl (mm_isC_f5 hC) ?_
  show mm_Runs L xs (d) 100 (4, [some (.ref p)], [.int (M.1 p 5)], M) o
  refine mm_Runs.seq (l := [(4, .ldc 41, 2)]) (S2 := (6, [some (.ref p)], [.int (1048576 : Int32), .int (M.1 p 5)], M)) (by decide +kernel) (hO := mm_own_100) rfl ?_
  refine mm_R_ile (t := 13) rfl rfl rfl (fun hc => ?_) (fun hc => ?_)
  · replace h := mm_ip hc h
    refine mm_Runs.seq (l := [(9, .iconst 1, 1), (10, .goto 4, 3)]) (S2 := (14, [some (.ref p)], [.int (1 : Int32)], M)) (by decide +kernel) (hO := mm_own_100) rfl ?_
    cases h
    exact mm_R_retb rfl rfl rfl hA
  · replace h := mm_iq hc h
    refine mm_Runs.seq (l := [(13, .iconst 0, 1)]) (S2 := (14, [some (.ref p)], [.int (0 : Int32)], M)) (by decide +kernel) (hO := mm_own_100) rfl ?_
    cases h
    exact mm_R_retb rfl rfl rfl hA
-- 142: PlainPacks$Sorted.readTable(LPlainPacks$Codes;)V (depth 9)
theorem mm_own_142 : mm_own 142 = 10 := rfl
def mp_142_26 (L : Nat) (xs : Nat → Int32) (p : Nat) (n : Nat) (d : Nat) (v2 : Int32) (s0 : Int32) (M : mm_M) (o : mm_E) : Prop := ∀ z3 z4 : Option Value, mm_Runs L xs d 142 (26, [some (.ref 42), some (.ref p), some (.int v2), z3, z4], [.int s0], M) o
def mp_142_31 (L : Nat) (xs : Nat → Int32) (p : Nat) (n : Nat) (d : Nat) (v2 : Int32) (v3 : Int32) (M : mm_M) (o : mm_E) : Prop := ∀ z4 : Option Value, mm_Runs L xs d 142 (31, [some (.ref 42), some (.ref p), some (.int v2), some (.int v3), z4], [], M) o
def mp_142_118 (L : Nat) (xs : Nat → Int32) (p : Nat) (n : Nat) (d : Nat) (M : mm_M) (o : mm_E) : Prop := ∀ z2 z3 z4 : Option Value, mm_Runs L xs d 142 (118, [some (.ref 42), some (.ref p), z2, z3, z4], [], M) o
def mp_142_44 (L : Nat) (xs : Nat → Int32) (p : Nat) (n : Nat) (d : Nat) (v2 : Int32) (v3 : Int32) (v4 : Int32) (M : mm_M) (o : mm_E) : Prop := mm_Runs L xs d 142 (44, [some (.ref 42), some (.ref p), some (.int v2), some (.int v3), some (.int v4)], [], M) o
def mp_142_105 (L : Nat) (xs : Nat → Int32) (p : Nat) (n : Nat) (d : Nat) (v2 : Int32) (v3 : Int32) (M : mm_M) (o : mm_E) : Prop := ∀ z4 : Option Value, mm_Runs L xs d 142 (105, [some (.ref 42), some (.ref p), some (.int v2), some (.int v3), z4], [], M) o
def mp_142_78 (L : Nat) (xs : Nat → Int32) (p : Nat) (n : Nat) (d : Nat) (v3 : Int32) (v4 : Int32) (s0 : Int32) (s1 : Int32) (M : mm_M) (o : mm_E) : Prop := ∀ z2 : Option Value, mm_Runs L xs d 142 (78, [some (.ref 42), some (.ref p), z2, some (.int v3), some (.int v4)], [.int s1, .int s0], M) o
def mp_142_96 (L : Nat) (xs : Nat → Int32) (p : Nat) (n : Nat) (d : Nat) (v2 : Int32) (v3 : Int32) (v4 : Int32) (s0 : Int32) (M : mm_M) (o : mm_E) : Prop := mm_Runs L xs d 142 (96, [some (.ref 42), some (.ref p), some (.int v2), some (.int v3), some (.int v4)], [.int s0], M) o
noncomputable def mf_142_j96 (p : Nat) (n : Nat) (v2 : Int32) (v3 : Int32) (v4 : Int32) (s0 : Int32) (M : mm_M) : mm_O ((Int32 × Int32) ⊕ (Int32)) := mm_B (mf_27 s0 M) (fun _ M1 => some (.inl (.inl (v2, (v4 + (1 : Int32)))), M1))
set_option maxRecDepth 8000 in
set_option maxHeartbeats 4000000 in
theorem ms_142_j96 {L : Nat} {xs : Nat → Int32} {p : Nat} {n : Nat} {d : Nat} (hC : mm_isC p n) (hd : 9 ≤ d) {v2 : Int32} {v3 : Int32} {v4 : Int32} {s0 : Int32} {M : mm_M} {q : (((Int32 × Int32) ⊕ (Int32)) ⊕ Nat) × mm_M} {o : mm_E} (h : mf_142_j96 p n v2 v3 v4 s0 M = some q) (hA : mm_A (mm_K2 (fun s M o => mp_142_44 L xs p n (d) s.1 v3 s.2 M o) (fun r M o => mp_142_105 L xs p n (d) r v3 M o)) q o) : mp_142_96 L xs p n d v2 v3 v4 s0 M o := by
  unfold mf_142_j96 at h
  obtain ⟨d, rfl⟩ := mm_d1 (n := 8) hd
  show mm_Runs L xs (d + 1) 142 (96, [some (.ref 42), some (.ref p), some (.int v2), some (.int v3), some (.int v4)], [.int s0], M) o
  refine mm_R_call (v := mm_wv) h hA (k2 := 27) (as := [.int s0]) (r := []) rfl (fun _ => rfl) (fun q hq o ho => ms_27 (by omega) hq ho) (fun _ M1 h => ?_)
  show mm_Runs L xs (d + 1) 142 (99, [some (.ref 42), some (.ref p), some (.int v2), some (.int v3), some (.int v4)], [], M1) o
  refine mm_Runs.seq (l := [(99, .iinc 4 1, 3), (102, .goto (-58), 3)]) (S2 := (44, [some (.ref 42), some (.ref p), some (.int v2), some (.int v3), some (.int (v4 + (1 : Int32)))], [], M1)) (by decide +kernel) (hO := mm_own_142) rfl ?_
  cases h
  exact (show mp_142_44 L xs p n (d + 1) v2 v3 (v4 + (1 : Int32)) M1 o from hA)
noncomputable def mf_142_j78 (p : Nat) (n : Nat) (v3 : Int32) (v4 : Int32) (s0 : Int32) (s1 : Int32) (M : mm_M) : mm_O ((Int32 × Int32) ⊕ (Int32)) := if (s0 + s1) < (1 : Int32) then (mf_142_j96 p n (s0 + s1) v3 v4 (1 : Int32) M) else (if (20 : Int32) < (s0 + s1) then (mf_142_j96 p n (s0 + s1) v3 v4 (1 : Int32) M) else (mf_142_j96 p n (s0 + s1) v3 v4 (0 : Int32) M))
set_option maxRecDepth 8000 in
set_option maxHeartbeats 4000000 in
theorem ms_142_j78 {L : Nat} {xs : Nat → Int32} {p : Nat} {n : Nat} {d : Nat} (hC : mm_isC p n) (hd : 9 ≤ d) {v3 : Int32} {v4 : Int32} {s0 : Int32} {s1 : Int32} {M : mm_M} {q : (((Int32 × Int32) ⊕ (Int32)) ⊕ Nat) × mm_M} {o : mm_E} (h : mf_142_j78 p n v3 v4 s0 s1 M = some q) (hA : mm_A (mm_K2 (fun s M o => mp_142_44 L xs p n (d) s.1 v3 s.2 M o) (fun r M o => mp_142_105 L xs p n (d) r v3 M o)) q o) : mp_142_78 L xs p n d v3 v4 s0 s1 M o := by
  unfold mf_142_j78 at h
  obtain ⟨d, rfl⟩ := mm_d1 (n := 8) hd
  intro z2
  show mm_Runs L xs (d + 1) 142 (78, [some (.ref 42), some (.ref p), z2, some (.int v3), some (.int v4)], [.int s1, .int s0], M) o
  refine mm_Runs.seq (l := [(78, .iadd, 1), (79, .istore_n 2, 1), (80, .iload_n 2, 1), (81, .iconst 1, 1)]) (S2 := (82, [some (.ref 42), some (.ref p), some (.int (s0 + s1)), some (.int v3), some (.int v4)], [.int (1 : Int32), .int (s0 + s1)], M)) (by decide +kernel) (hO := mm_own_142) rfl ?_
  refine mm_R_ilt (t := 91) rfl rfl rfl (fun hc => ?_) (fun hc => ?_)
  · replace h := mm_ip hc h
    refine mm_Runs.seq (l := [(91, .iconst 1, 1), (92, .goto 4, 3)]) (S2 := (96, [some (.ref 42), some (.ref p), some (.int (s0 + s1)), some (.int v3), some (.int v4)], [.int (1 : Int32)], M)) (by decide +kernel) (hO := mm_own_142) rfl ?_
    exact (ms_142_j96 hC hd h hA : mp_142_96 L xs p n (d + 1) (s0 + s1) v3 v4 (1 : Int32) M o)
  · replace h := mm_iq hc h
    refine mm_Runs.seq (l := [(85, .iload_n 2, 1), (86, .bipush 20, 2)]) (S2 := (88, [some (.ref 42), some (.ref p), some (.int (s0 + s1)), some (.int v3), some (.int v4)], [.int (20 : Int32), .int (s0 + s1)], M)) (by decide +kernel) (hO := mm_own_142) rfl ?_
    refine mm_R_ile (t := 95) rfl rfl rfl (fun hc => ?_) (fun hc => ?_)
    · replace h := mm_ip hc h
      refine mm_Runs.seq (l := [(91, .iconst 1, 1), (92, .goto 4, 3)]) (S2 := (96, [some (.ref 42), some (.ref p), some (.int (s0 + s1)), some (.int v3), some (.int v4)], [.int (1 : Int32)], M)) (by decide +kernel) (hO := mm_own_142) rfl ?_
      exact (ms_142_j96 hC hd h hA : mp_142_96 L xs p n (d + 1) (s0 + s1) v3 v4 (1 : Int32) M o)
    · replace h := mm_iq hc h
      refine mm_Runs.seq (l := [(95, .iconst 0, 1)]) (S2 := (96, [some (.ref 42), some (.ref p), some (.int (s0 + s1)), some (.int v3), some (.int v4)], [.int (0 : Int32)], M)) (by decide +kernel) (hO := mm_own_142) rfl ?_
      exact (ms_142_j96 hC hd h hA : mp_142_96 L xs p n (d + 1) (s0 + s1) v3 v4 (0 : Int32) M o)
noncomputable def mf_142_b44 (p : Nat) (n : Nat) (v2 : Int32) (v3 : Int32) (v4 : Int32) (M : mm_M) : mm_O ((Int32 × Int32) ⊕ (Int32)) := if v4 < (1000000 : Int32) then (mm_B (mf_45 M) (fun r1 M2 => if r1 = (1 : Int32) then (mm_B (mf_45 M2) (fun r3 M4 => if r3 = 0 then (mf_142_j78 p n v3 v4 v2 (1 : Int32) M4) else (mf_142_j78 p n v3 v4 v2 (-1 : Int32) M4))) else (some (.inl (.inr v2), M2)))) else (some (.inl (.inr v2), M))
noncomputable def mf_142_L44 (p : Nat) (n : Nat) (v3 : Int32) (s : Int32 × Int32) (M : mm_M) : mm_O (Int32) := mm_L (fun s M => mf_142_b44 p n s.1 v3 s.2 M) s M
set_option maxRecDepth 8000 in
set_option maxHeartbeats 4000000 in
theorem ms_142_b44 {L : Nat} {xs : Nat → Int32} {p : Nat} {n : Nat} {d : Nat} (hC : mm_isC p n) (hd : 9 ≤ d) {v2 : Int32} {v3 : Int32} {v4 : Int32} {M : mm_M} {q : (((Int32 × Int32) ⊕ (Int32)) ⊕ Nat) × mm_M} {o : mm_E} (h : mf_142_b44 p n v2 v3 v4 M = some q) (hA : mm_A (mm_K2 (fun s M o => mp_142_44 L xs p n (d) s.1 v3 s.2 M o) (fun r M o => mp_142_105 L xs p n (d) r v3 M o)) q o) : mp_142_44 L xs p n d v2 v3 v4 M o := by
  unfold mf_142_b44 at h
  obtain ⟨d, rfl⟩ := mm_d1 (n := 8) hd
  show mm_Runs L xs (d + 1) 142 (44, [some (.ref 42), some (.ref p), some (.int v2), some (.int v3), some (.int v4)], [], M) o
  refine mm_Runs.seq (l := [(44, .iload 4, 2), (46, .ldc 69, 2)]) (S2 := (48, [some (.ref 42), some (.ref p), some (.int v2), some (.int v3), some (.int v4)], [.int (1000000 : Int32), .int v4], M)) (by decide +kernel) (hO := mm_own_142) rfl ?_
  refine mm_R_ige (t := 105) rfl rfl rfl (fun hc => ?_) (fun hc => ?_)
  · replace h := mm_ip hc h
    refine mm_Runs.seq (l := [(51, .aload_n 0, 1), (52, .getfield 36, 3)]) (S2 := (55, [some (.ref 42), some (.ref p), some (.int v2), some (.int v3), some (.int v4)], [.ref 1], M)) (by decide +kernel) (hO := mm_own_142) rfl ?_
    refine mm_R_call (v := mm_wi) h hA (k2 := 45) (as := [.ref 1]) (r := []) rfl (fun _ => rfl) (fun q hq o ho => ms_45 (by omega) hq ho) (fun r1 M2 h => ?_)
    show mm_Runs L xs (d + 1) 142 (58, [some (.ref 42), some (.ref p), some (.int v2), some (.int v3), some (.int v4)], [.int r1], M2) o
    refine mm_Runs.seq (l := [(58, .iconst 1, 1)]) (S2 := (59, [some (.ref 42), some (.ref p), some (.int v2), some (.int v3), some (.int v4)], [.int (1 : Int32), .int r1], M2)) (by decide +kernel) (hO := mm_own_142) rfl ?_
    refine mm_R_ine (t := 105) rfl rfl rfl (fun hc => ?_) (fun hc => ?_)
    · replace h := mm_ip hc h
      refine mm_Runs.seq (l := [(62, .iload_n 2, 1), (63, .aload_n 0, 1), (64, .getfield 36, 3)]) (S2 := (67, [some (.ref 42), some (.ref p), some (.int v2), some (.int v3), some (.int v4)], [.ref 1, .int v2], M2)) (by decide +kernel) (hO := mm_own_142) rfl ?_
      refine mm_R_call (v := mm_wi) h hA (k2 := 45) (as := [.ref 1]) (r := [.int v2]) rfl (fun _ => rfl) (fun q hq o ho => ms_45 (by omega) hq ho) (fun r3 M4 h => ?_)
      show mm_Runs L xs (d + 1) 142 (70, [some (.ref 42), some (.ref p), some (.int v2), some (.int v3), some (.int v4)], [.int r3, .int v2], M4) o
      refine mm_R_zne (t := 77) rfl rfl rfl (fun hc => ?_) (fun hc => ?_)
      · replace h := mm_ip hc h
        refine mm_Runs.seq (l := [(73, .iconst 1, 1), (74, .goto 4, 3)]) (S2 := (78, [some (.ref 42), some (.ref p), some (.int v2), some (.int v3), some (.int v4)], [.int (1 : Int32), .int v2], M4)) (by decide +kernel) (hO := mm_own_142) rfl ?_
        exact (ms_142_j78 hC hd h hA : mp_142_78 L xs p n (d + 1) v3 v4 v2 (1 : Int32) M4 o) (some (.int v2))
      · replace h := mm_iq hc h
        refine mm_Runs.seq (l := [(77, .iconst (-1), 1)]) (S2 := (78, [some (.ref 42), some (.ref p), some (.int v2), some (.int v3), some (.int v4)], [.int (-1 : Int32), .int v2], M4)) (by decide +kernel) (hO := mm_own_142) rfl ?_
        exact (ms_142_j78 hC hd h hA : mp_142_78 L xs p n (d + 1) v3 v4 v2 (-1 : Int32) M4 o) (some (.int v2))
    · replace h := mm_iq hc h
      cases h
      exact (show mp_142_105 L xs p n (d + 1) v2 v3 M2 o from hA) (some (.int v4))
  · replace h := mm_iq hc h
    cases h
    exact (show mp_142_105 L xs p n (d + 1) v2 v3 M o from hA) (some (.int v4))
theorem ms_142_L44 {L : Nat} {xs : Nat → Int32} {p : Nat} {n : Nat} {d : Nat} (hC : mm_isC p n) (hd : 9 ≤ d) {v2 : Int32} {v3 : Int32} {v4 : Int32} {β : Type} {K : β → mm_M → mm_E → Prop} {F : (Int32) → mm_M → mm_O β} {M : mm_M} {q : (β ⊕ Nat) × mm_M} {o : mm_E} (h : mm_B (mf_142_L44 p n v3 (v2, v4) M) F = some q) (hA : mm_A K q o) (hx : ∀ (r : (Int32)) (M2 : mm_M), F r M2 = some q → (fun r M o => mp_142_105 L xs p n (d) r v3 M o) r M2 o) : mp_142_44 L xs p n d v2 v3 v4 M o := mm_R_loop (s := (v2, v4)) (M := M) (P := (fun s M o => mp_142_44 L xs p n (d) s.1 v3 s.2 M o)) (X := (fun r M o => mp_142_105 L xs p n (d) r v3 M o)) h hA (fun s M q hq hA => ms_142_b44 hC hd hq hA) hx
noncomputable def mf_142_j105 (p : Nat) (n : Nat) (v2 : Int32) (v3 : Int32) (M : mm_M) : mm_O ((Int32 × Int32) ⊕ (Unit)) := if mm_in v3 n then some (.inl (.inl (v2, (v3 + (1 : Int32)))), (mm_pi M (p + 1) v3.toNatClampNeg v2)) else none
set_option maxRecDepth 8000 in
set_option maxHeartbeats 4000000 in
theorem ms_142_j105 {L : Nat} {xs : Nat → Int32} {p : Nat} {n : Nat} {d : Nat} (hC : mm_isC p n) (hd : 9 ≤ d) {v2 : Int32} {v3 : Int32} {M : mm_M} {q : (((Int32 × Int32) ⊕ (Unit)) ⊕ Nat) × mm_M} {o : mm_E} (h : mf_142_j105 p n v2 v3 M = some q) (hA : mm_A (mm_K2 (fun s M o => mp_142_31 L xs p n (d) s.1 s.2 M o) (fun r M o => mp_142_118 L xs p n (d) M o)) q o) : mp_142_105 L xs p n d v2 v3 M o := by
  unfold mf_142_j105 at h
  obtain ⟨d, rfl⟩ := mm_d1 (n := 8) hd
  intro z4
  show mm_Runs L xs (d + 1) 142 (105, [some (.ref 42), some (.ref p), some (.int v2), some (.int v3), z4], [], M) o
  refine mm_Runs.seq (l := [(105, .aload_n 1, 1)]) (S2 := (106, [some (.ref 42), some (.ref p), some (.int v2), some (.int v3), z4], [.ref p], M)) (by decide +kernel) (hO := mm_own_142) rfl ?_
  refine mm_R_getf (ci := 7) (j := 0) (f := .inl (p + 1)) rfl rfl (mm_isC_f0 hC) ?_
  show mm_Runs L xs (d + 1) 142 (109, [some (.ref 42), some (.ref p), some (.int v2), some (.int v3), z4], [.ref (p + 1)], M) o
  refine mm_Runs.seq (l := [(109, .iload_n 3, 1), (110, .iload_n 2, 1)]) (S2 := (111, [some (.ref 42), some (.ref p), some (.int v2), some (.int v3), z4], [.int v2, .int v3, .ref (p + 1)], M)) (by decide +kernel) (hO := mm_own_142) rfl ?_
  obtain ⟨hb, h⟩ := mm_gd h
  refine mm_R_iast rfl (mm_isC_a1 hC) hb ?_
  refine mm_Runs.seq (l := [(112, .iinc 3 1, 3), (115, .goto (-84), 3)]) (S2 := (31, [some (.ref 42), some (.ref p), some (.int v2), some (.int (v3 + (1 : Int32))), z4], [], (mm_pi M (p + 1) v3.toNatClampNeg v2))) (by decide +kernel) (hO := mm_own_142) rfl ?_
  cases h
  exact (show mp_142_31 L xs p n (d + 1) v2 (v3 + (1 : Int32)) (mm_pi M (p + 1) v3.toNatClampNeg v2) o from hA) z4
noncomputable def mf_142_b31 (p : Nat) (n : Nat) (v2 : Int32) (v3 : Int32) (M : mm_M) : mm_O ((Int32 × Int32) ⊕ (Unit)) := if v3 < ((M.1 42 9) + (2 : Int32)) then (mm_B (mf_142_L44 p n v3 (v2, (0 : Int32)) M) (fun r2 M1 => mf_142_j105 p n r2 v3 M1)) else (some (.inl (.inr ()), M))
noncomputable def mf_142_L31 (p : Nat) (n : Nat) (s : Int32 × Int32) (M : mm_M) : mm_O (Unit) := mm_L (fun s M => mf_142_b31 p n s.1 s.2 M) s M
set_option maxRecDepth 8000 in
set_option maxHeartbeats 4000000 in
theorem ms_142_b31 {L : Nat} {xs : Nat → Int32} {p : Nat} {n : Nat} {d : Nat} (hC : mm_isC p n) (hd : 9 ≤ d) {v2 : Int32} {v3 : Int32} {M : mm_M} {q : (((Int32 × Int32) ⊕ (Unit)) ⊕ Nat) × mm_M} {o : mm_E} (h : mf_142_b31 p n v2 v3 M = some q) (hA : mm_A (mm_K2 (fun s M o => mp_142_31 L xs p n (d) s.1 s.2 M o) (fun r M o => mp_142_118 L xs p n (d) M o)) q o) : mp_142_31 L xs p n d v2 v3 M o := by
  unfold mf_142_b31 at h
  obtain ⟨d, rfl⟩ := mm_d1 (n := 8) hd
  intro z4
  show mm_Runs L xs (d + 1) 142 (31, [some (.ref 42), some (.ref p), some (.int v2), some (.int v3), z4], [], M) o
  refine mm_Runs.seq (l := [(31, .iload_n 3, 1), (32, .aload_n 0, 1), (33, .getfield 125, 3), (36, .iconst 2, 1), (37, .iadd, 1)]) (S2 := (38, [some (.ref 42), some (.ref p), some (.int v2), some (.int v3), z4], [.int ((M.1 42 9) + (2 : Int32)), .int v3], M)) (by decide +kernel) (hO := mm_own_142) rfl ?_
  refine mm_R_ige (t := 118) rfl rfl rfl (fun hc => ?_) (fun hc => ?_)
  · replace h := mm_ip hc h
    refine mm_Runs.seq (l := [(41, .iconst 0, 1), (42, .istore 4, 2)]) (S2 := (44, [some (.ref 42), some (.ref p), some (.int v2), some (.int v3), some (.int (0 : Int32))], [], M)) (by decide +kernel) (hO := mm_own_142) rfl ?_
    have hp : mp_142_44 L xs p n (d + 1) v2 v3 (0 : Int32) M o := by
      refine ms_142_L44 hC hd h hA (fun r2 M1 h => ?_)
      intro y3
      show mm_Runs L xs (d + 1) 142 (105, [some (.ref 42), some (.ref p), some (.int r2), some (.int v3), y3], [], M1) o
      exact (ms_142_j105 hC hd h hA : mp_142_105 L xs p n (d + 1) r2 v3 M1 o) y3
    exact hp
  · replace h := mm_iq hc h
    cases h
    exact (show mp_142_118 L xs p n (d + 1) M o from hA) (some (.int v2)) (some (.int v3)) z4
theorem ms_142_L31 {L : Nat} {xs : Nat → Int32} {p : Nat} {n : Nat} {d : Nat} (hC : mm_isC p n) (hd : 9 ≤ d) {v2 : Int32} {v3 : Int32} {β : Type} {K : β → mm_M → mm_E → Prop} {F : (Unit) → mm_M → mm_O β} {M : mm_M} {q : (β ⊕ Nat) × mm_M} {o : mm_E} (h : mm_B (mf_142_L31 p n (v2, v3) M) F = some q) (hA : mm_A K q o) (hx : ∀ (r : (Unit)) (M2 : mm_M), F r M2 = some q → (fun r M o => mp_142_118 L xs p n (d) M o) r M2 o) : mp_142_31 L xs p n d v2 v3 M o := mm_R_loop (s := (v2, v3)) (M := M) (P := (fun s M o => mp_142_31 L xs p n (d) s.1 s.2 M o)) (X := (fun r M o => mp_142_118 L xs p n (d) M o)) h hA (fun s M q hq hA => ms_142_b31 hC hd hq hA) hx
noncomputable def mf_142_j118 (p : Nat) (n : Nat) (M : mm_M) : mm_O Unit := mm_B (mf_99 p n ((M.1 42 9) + (2 : Int32)) M) (fun _ M1 => mm_B (mf_100 p n M1) (fun r2 M3 => mm_B (mf_27 r2 M3) (fun _ M4 => some (.inl (), M4))))
set_option maxRecDepth 8000 in
set_option maxHeartbeats 4000000 in
theorem ms_142_j118 {L : Nat} {xs : Nat → Int32} {p : Nat} {n : Nat} {d : Nat} (hC : mm_isC p n) (hd : 9 ≤ d) {M : mm_M} {q : (Unit ⊕ Nat) × mm_M} {o : mm_E} (h : mf_142_j118 p n M = some q) (hA : mm_A (mm_Kr mm_wv) q o) : mp_142_118 L xs p n d M o := by
  unfold mf_142_j118 at h
  obtain ⟨d, rfl⟩ := mm_d1 (n := 8) hd
  intro z2 z3 z4
  show mm_Runs L xs (d + 1) 142 (118, [some (.ref 42), some (.ref p), z2, z3, z4], [], M) o
  refine mm_Runs.seq (l := [(118, .aload_n 1, 1), (119, .aload_n 0, 1), (120, .getfield 125, 3), (123, .iconst 2, 1), (124, .iadd, 1)]) (S2 := (125, [some (.ref 42), some (.ref p), z2, z3, z4], [.int ((M.1 42 9) + (2 : Int32)), .ref p], M)) (by decide +kernel) (hO := mm_own_142) rfl ?_
  refine mm_R_call (v := mm_wv) h hA (k2 := 99) (as := [.ref p, .int ((M.1 42 9) + (2 : Int32))]) (r := []) (mm_site_v (idx := 138) rfl rfl rfl rfl (mm_isC_cls hC) rfl rfl) (fun _ => rfl) (fun q hq o ho => ms_99 hC (by omega) hq ho) (fun _ M1 h => ?_)
  show mm_Runs L xs (d + 1) 142 (128, [some (.ref 42), some (.ref p), z2, z3, z4], [], M1) o
  refine mm_Runs.seq (l := [(128, .aload_n 1, 1)]) (S2 := (129, [some (.ref 42), some (.ref p), z2, z3, z4], [.ref p], M1)) (by decide +kernel) (hO := mm_own_142) rfl ?_
  refine mm_R_call (v := mm_wi) h hA (k2 := 100) (as := [.ref p]) (r := []) (mm_site_v (idx := 141) rfl rfl rfl rfl (mm_isC_cls hC) rfl rfl) (fun _ => rfl) (fun q hq o ho => ms_100 hC (by omega) hq ho) (fun r2 M3 h => ?_)
  show mm_Runs L xs (d + 1) 142 (132, [some (.ref 42), some (.ref p), z2, z3, z4], [.int r2], M3) o
  refine mm_R_call (v := mm_wv) h hA (k2 := 27) (as := [.int r2]) (r := []) rfl (fun _ => rfl) (fun q hq o ho => ms_27 (by omega) hq ho) (fun _ M4 h => ?_)
  show mm_Runs L xs (d + 1) 142 (135, [some (.ref 42), some (.ref p), z2, z3, z4], [], M4) o
  cases h
  exact mm_R_retv rfl rfl hA
noncomputable def mf_142_j26 (p : Nat) (n : Nat) (v2 : Int32) (s0 : Int32) (M : mm_M) : mm_O Unit := mm_B (mf_27 s0 M) (fun _ M1 => mm_B (mf_142_L31 p n (v2, (0 : Int32)) M1) (fun r3 M2 => mf_142_j118 p n M2))
set_option maxRecDepth 8000 in
set_option maxHeartbeats 4000000 in
theorem ms_142_j26 {L : Nat} {xs : Nat → Int32} {p : Nat} {n : Nat} {d : Nat} (hC : mm_isC p n) (hd : 9 ≤ d) {v2 : Int32} {s0 : Int32} {M : mm_M} {q : (Unit ⊕ Nat) × mm_M} {o : mm_E} (h : mf_142_j26 p n v2 s0 M = some q) (hA : mm_A (mm_Kr mm_wv) q o) : mp_142_26 L xs p n d v2 s0 M o := by
  unfold mf_142_j26 at h
  obtain ⟨d, rfl⟩ := mm_d1 (n := 8) hd
  intro z3 z4
  show mm_Runs L xs (d + 1) 142 (26, [some (.ref 42), some (.ref p), some (.int v2), z3, z4], [.int s0], M) o
  refine mm_R_call (v := mm_wv) h hA (k2 := 27) (as := [.int s0]) (r := []) rfl (fun _ => rfl) (fun q hq o ho => ms_27 (by omega) hq ho) (fun _ M1 h => ?_)
  show mm_Runs L xs (d + 1) 142 (29, [some (.ref 42), some (.ref p), some (.int v2), z3, z4], [], M1) o
  refine mm_Runs.seq (l := [(29, .iconst 0, 1), (30, .istore_n 3, 1)]) (S2 := (31, [some (.ref 42), some (.ref p), some (.int v2), some (.int (0 : Int32)), z4], [], M1)) (by decide +kernel) (hO := mm_own_142) rfl ?_
  have hp : mp_142_31 L xs p n (d + 1) v2 (0 : Int32) M1 o := by
    refine ms_142_L31 hC hd h hA (fun r3 M2 h => ?_)
    intro y4 y5 y6
    show mm_Runs L xs (d + 1) 142 (118, [some (.ref 42), some (.ref p), y4, y5, y6], [], M2) o
    exact (ms_142_j118 hC hd h hA : mp_142_118 L xs p n (d + 1) M2 o) y4 y5 y6
  exact hp z4
noncomputable def mf_142 (p : Nat) (n : Nat) (M : mm_M) : mm_O Unit := mm_B (mf_46 (5 : Int32) M) (fun r1 M2 => if r1.toInt32 < (1 : Int32) then (mf_142_j26 p n r1.toInt32 (1 : Int32) M2) else (if (20 : Int32) < r1.toInt32 then (mf_142_j26 p n r1.toInt32 (1 : Int32) M2) else (mf_142_j26 p n r1.toInt32 (0 : Int32) M2)))
set_option maxRecDepth 8000 in
set_option maxHeartbeats 4000000 in
theorem ms_142 {L : Nat} {xs : Nat → Int32} {p : Nat} {n : Nat} {d : Nat} (hC : mm_isC p n) (hd : 9 ≤ d) {M : mm_M} {q : (Unit ⊕ Nat) × mm_M} {o : mm_E} (h : mf_142 p n M = some q) (hA : mm_A (mm_Kr mm_wv) q o) : mm_Runs L xs d 142 (0, mm_ent (mm_ml 142) [.ref 42, .ref p], [], M) o := by
  unfold mf_142 at h
  obtain ⟨d, rfl⟩ := mm_d1 (n := 8) hd
  show mm_Runs L xs (d + 1) 142 (0, [some (.ref 42), some (.ref p), none, none, none], [], M) o
  refine mm_Runs.seq (l := [(0, .aload_n 0, 1), (1, .getfield 36, 3), (4, .iconst 5, 1)]) (S2 := (5, [some (.ref 42), some (.ref p), none, none, none], [.int (5 : Int32), .ref 1], M)) (by decide +kernel) (hO := mm_own_142) rfl ?_
  refine mm_R_call (v := mm_wl) h hA (k2 := 46) (as := [.ref 1, .int (5 : Int32)]) (r := []) rfl (fun _ => rfl) (fun q hq o ho => ms_46 (by omega) hq ho) (fun r1 M2 h => ?_)
  show mm_Runs L xs (d + 1) 142 (8, [some (.ref 42), some (.ref p), none, none, none], [.long r1], M2) o
  refine mm_Runs.seq (l := [(8, .l2i, 1), (9, .istore_n 2, 1), (10, .iload_n 2, 1), (11, .iconst 1, 1)]) (S2 := (12, [some (.ref 42), some (.ref p), some (.int r1.toInt32), none, none], [.int (1 : Int32), .int r1.toInt32], M2)) (by decide +kernel) (hO := mm_own_142) rfl ?_
  refine mm_R_ilt (t := 21) rfl rfl rfl (fun hc => ?_) (fun hc => ?_)
  · replace h := mm_ip hc h
    refine mm_Runs.seq (l := [(21, .iconst 1, 1), (22, .goto 4, 3)]) (S2 := (26, [some (.ref 42), some (.ref p), some (.int r1.toInt32), none, none], [.int (1 : Int32)], M2)) (by decide +kernel) (hO := mm_own_142) rfl ?_
    exact (ms_142_j26 hC hd h hA : mp_142_26 L xs p n (d + 1) r1.toInt32 (1 : Int32) M2 o) none none
  · replace h := mm_iq hc h
    refine mm_Runs.seq (l := [(15, .iload_n 2, 1), (16, .bipush 20, 2)]) (S2 := (18, [some (.ref 42), some (.ref p), some (.int r1.toInt32), none, none], [.int (20 : Int32), .int r1.toInt32], M2)) (by decide +kernel) (hO := mm_own_142) rfl ?_
    refine mm_R_ile (t := 25) rfl rfl rfl (fun hc => ?_) (fun hc => ?_)
    · replace h := mm_ip hc h
      refine mm_Runs.seq (l := [(21, .iconst 1, 1), (22, .goto 4, 3)]) (S2 := (26, [some (.ref 42), some (.ref p), some (.int r1.toInt32), none, none], [.int (1 : Int32)], M2)) (by decide +kernel) (hO := mm_own_142) rfl ?_
      exact (ms_142_j26 hC hd h hA : mp_142_26 L xs p n (d + 1) r1.toInt32 (1 : Int32) M2 o) none none
    · replace h := mm_iq hc h
      refine mm_Runs.seq (l := [(25, .iconst 0, 1)]) (S2 := (26, [some (.ref 42), some (.ref p), some (.int r1.toInt32), none, none], [.int (0 : Int32)], M2)) (by decide +kernel) (hO := mm_own_142) rfl ?_
      exact (ms_142_j26 hC hd h hA : mp_142_26 L xs p n (d + 1) r1.toInt32 (0 : Int32) M2 o) none none
