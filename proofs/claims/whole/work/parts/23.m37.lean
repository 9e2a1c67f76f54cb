/-! MEANINGS 37 -/
-- 275: PlainPacksModel.counted()I (depth 1)
theorem mm_own_275 : mm_own 275 = 12 := rfl
def mp_275_4 (L : Nat) (xs : Nat → Int32) (d : Nat) (v1 : Int32) (v2 : Int32) (M : mm_M) (o : mm_E) : Prop := ∀ z3 z4 : Option Value, mm_Runs L xs d 275 (4, [some (.ref 84), some (.int v1), some (.int v2), z3, z4], [], M) o
def mp_275_81 (L : Nat) (xs : Nat → Int32) (d : Nat) (v1 : Int32) (M : mm_M) (o : mm_E) : Prop := ∀ z0 z2 z3 z4 : Option Value, mm_Runs L xs d 275 (81, [z0, some (.int v1), z2, z3, z4], [], M) o
def mp_275_24 (L : Nat) (xs : Nat → Int32) (d : Nat) (v1 : Int32) (v2 : Int32) (v3 : Int32) (v4 : Int32) (M : mm_M) (o : mm_E) : Prop := mm_Runs L xs d 275 (24, [some (.ref 84), some (.int v1), some (.int v2), some (.int v3), some (.int v4)], [], M) o
def mp_275_57 (L : Nat) (xs : Nat → Int32) (d : Nat) (v1 : Int32) (v2 : Int32) (v3 : Int32) (M : mm_M) (o : mm_E) : Prop := ∀ z4 : Option Value, mm_Runs L xs d 275 (57, [some (.ref 84), some (.int v1), some (.int v2), some (.int v3), z4], [], M) o
noncomputable def mf_275_b24 (v1 : Int32) (v2 : Int32) (v3 : Int32) (v4 : Int32) (M : mm_M) : mm_O ((Int32 × Int32) ⊕ (Int32)) := if v4 < v3 then (if v4 < (4 : Int32) then (if mm_in v2 10000 then if mm_in v1 12600 then some (.inl (.inl ((v1 + (1 : Int32)), (v4 + (1 : Int32)))), (mm_pi M 102 v1.toNatClampNeg (M.1 85 v2.toNatClampNeg))) else none else none) else (some (.inl (.inr v1), M))) else (some (.inl (.inr v1), M))
noncomputable def mf_275_L24 (v2 : Int32) (v3 : Int32) (s : Int32 × Int32) (M : mm_M) : mm_O (Int32) := mm_L (fun s M => mf_275_b24 s.1 v2 v3 s.2 M) s M
set_option maxRecDepth 8000 in
set_option maxHeartbeats 4000000 in
theorem ms_275_b24 {L : Nat} {xs : Nat → Int32} {d : Nat} (hd : 1 ≤ d) {v1 : Int32} {v2 : Int32} {v3 : Int32} {v4 : Int32} {M : mm_M} {q : (((Int32 × Int32) ⊕ (Int32)) ⊕ Nat) × mm_M} {o : mm_E} (h : mf_275_b24 v1 v2 v3 v4 M = some q) (hA : mm_A (mm_K2 (fun s M o => mp_275_24 L xs (d) s.1 v2 v3 s.2 M o) (fun r M o => mp_275_57 L xs (d) r v2 v3 M o)) q o) : mp_275_24 L xs d v1 v2 v3 v4 M o := by
  unfold mf_275_b24 at h
  obtain ⟨d, rfl⟩ := mm_d1 (n := 0) hd
  show mm_Runs L xs (d + 1) 275 (24, [some (.ref 84), some (.int v1), some (.int v2), some (.int v3), some (.int v4)], [], M) o
  refine mm_Runs.seq (l := [(24, .iload 4, 2), (26, .iload_n 3, 1)]) (S2 := (27, [some (.ref 84), some (.int v1), some (.int v2), some (.int v3), some (.int v4)], [.int v3, .int v4], M)) (by decide +kernel) (hO := mm_own_275) rfl ?_
  refine mm_R_ige (t := 57) rfl rfl rfl (fun hc => ?_) (fun hc => ?_)
  · replace h := mm_ip hc h
    refine mm_Runs.seq (l := [(30, .iload 4, 2), (32, .iconst 4, 1)]) (S2 := (33, [some (.ref 84), some (.int v1), some (.int v2), some (.int v3), some (.int v4)], [.int (4 : Int32), .int v4], M)) (by decide +kernel) (hO := mm_own_275) rfl ?_
    refine mm_R_ige (t := 57) rfl rfl rfl (fun hc => ?_) (fun hc => ?_)
    · replace h := mm_ip hc h
      refine mm_Runs.seq (l := [(36, .aload_n 0, 1), (37, .getfield 63, 3), (40, .iload_n 1, 1), (41, .aload_n 0, 1), (42, .getfield 7, 3), (45, .iload_n 2, 1)]) (S2 := (46, [some (.ref 84), some (.int v1), some (.int v2), some (.int v3), some (.int v4)], [.int v2, .ref 85, .int v1, .ref 102], M)) (by decide +kernel) (hO := mm_own_275) rfl ?_
      obtain ⟨hb, h⟩ := mm_gd h
      refine mm_R_iald rfl rfl hb ?_
      obtain ⟨hb, h⟩ := mm_gd h
      refine mm_R_iast rfl rfl hb ?_
      refine mm_Runs.seq (l := [(48, .iinc 1 1, 3), (51, .iinc 4 1, 3), (54, .goto (-30), 3)]) (S2 := (24, [some (.ref 84), some (.int (v1 + (1 : Int32))), some (.int v2), some (.int v3), some (.int (v4 + (1 : Int32)))], [], (mm_pi M 102 v1.toNatClampNeg (M.1 85 v2.toNatClampNeg)))) (by decide +kernel) (hO := mm_own_275) rfl ?_
      cases h
      exact (show mp_275_24 L xs (d + 1) (v1 + (1 : Int32)) v2 v3 (v4 + (1 : Int32)) (mm_pi M 102 v1.toNatClampNeg (M.1 85 v2.toNatClampNeg)) o from hA)
    · replace h := mm_iq hc h
      cases h
      exact (show mp_275_57 L xs (d + 1) v1 v2 v3 M o from hA) (some (.int v4))
  · replace h := mm_iq hc h
    cases h
    exact (show mp_275_57 L xs (d + 1) v1 v2 v3 M o from hA) (some (.int v4))
theorem ms_275_L24 {L : Nat} {xs : Nat → Int32} {d : Nat} (hd : 1 ≤ d) {v1 : Int32} {v2 : Int32} {v3 : Int32} {v4 : Int32} {β : Type} {K : β → mm_M → mm_E → Prop} {F : (Int32) → mm_M → mm_O β} {M : mm_M} {q : (β ⊕ Nat) × mm_M} {o : mm_E} (h : mm_B (mf_275_L24 v2 v3 (v1, v4) M) F = some q) (hA : mm_A K q o) (hx : ∀ (r : (Int32)) (M2 : mm_M), F r M2 = some q → (fun r M o => mp_275_57 L xs (d) r v2 v3 M o) r M2 o) : mp_275_24 L xs d v1 v2 v3 v4 M o := mm_R_loop (s := (v1, v4)) (M := M) (P := (fun s M o => mp_275_24 L xs (d) s.1 v2 v3 s.2 M o)) (X := (fun r M o => mp_275_57 L xs (d) r v2 v3 M o)) h hA (fun s M q hq hA => ms_275_b24 hd hq hA) hx
noncomputable def mf_275_j57 (v1 : Int32) (v2 : Int32) (v3 : Int32) (M : mm_M) : mm_O ((Int32 × Int32) ⊕ (Int32)) := if (3 : Int32) < v3 then (if mm_in v1 12600 then some (.inl (.inl ((v1 + (1 : Int32)), (v2 + v3))), (mm_pi M 102 v1.toNatClampNeg (v3 - (4 : Int32)))) else none) else (some (.inl (.inl (v1, (v2 + v3))), M))
set_option maxRecDepth 8000 in
set_option maxHeartbeats 4000000 in
theorem ms_275_j57 {L : Nat} {xs : Nat → Int32} {d : Nat} (hd : 1 ≤ d) {v1 : Int32} {v2 : Int32} {v3 : Int32} {M : mm_M} {q : (((Int32 × Int32) ⊕ (Int32)) ⊕ Nat) × mm_M} {o : mm_E} (h : mf_275_j57 v1 v2 v3 M = some q) (hA : mm_A (mm_K2 (fun s M o => mp_275_4 L xs (d) s.1 s.2 M o) (fun r M o => mp_275_81 L xs (d) r M o)) q o) : mp_275_57 L xs d v1 v2 v3 M o := by
  unfold mf_275_j57 at h
  obtain ⟨d, rfl⟩ := mm_d1 (n := 0) hd
  intro z4
  show mm_Runs L xs (d + 1) 275 (57, [some (.ref 84), some (.int v1), some (.int v2), some (.int v3), z4], [], M) o
  refine mm_Runs.seq (l := [(57, .iload_n 3, 1), (58, .iconst 3, 1)]) (S2 := (59, [some (.ref 84), some (.int v1), some (.int v2), some (.int v3), z4], [.int (3 : Int32), .int v3], M)) (by decide +kernel) (hO := mm_own_275) rfl ?_
  refine mm_R_ile (t := 74) rfl rfl rfl (fun hc => ?_) (fun hc => ?_)
  · replace h := mm_ip hc h
    refine mm_Runs.seq (l := [(62, .aload_n 0, 1), (63, .getfield 63, 3), (66, .iload_n 1, 1), (67, .iload_n 3, 1), (68, .iconst 4, 1), (69, .isub, 1)]) (S2 := (70, [some (.ref 84), some (.int v1), some (.int v2), some (.int v3), z4], [.int (v3 - (4 : Int32)), .int v1, .ref 102], M)) (by decide +kernel) (hO := mm_own_275) rfl ?_
    obtain ⟨hb, h⟩ := mm_gd h
    refine mm_R_iast rfl rfl hb ?_
    refine mm_Runs.seq (l := [(71, .iinc 1 1, 3), (74, .iload_n 2, 1), (75, .iload_n 3, 1), (76, .iadd, 1), (77, .istore_n 2, 1), (78, .goto (-74), 3)]) (S2 := (4, [some (.ref 84), some (.int (v1 + (1 : Int32))), some (.int (v2 + v3)), some (.int v3), z4], [], (mm_pi M 102 v1.toNatClampNeg (v3 - (4 : Int32))))) (by decide +kernel) (hO := mm_own_275) rfl ?_
    cases h
    exact (show mp_275_4 L xs (d + 1) (v1 + (1 : Int32)) (v2 + v3) (mm_pi M 102 v1.toNatClampNeg (v3 - (4 : Int32))) o from hA) (some (.int v3)) z4
  · replace h := mm_iq hc h
    refine mm_Runs.seq (l := [(74, .iload_n 2, 1), (75, .iload_n 3, 1), (76, .iadd, 1), (77, .istore_n 2, 1), (78, .goto (-74), 3)]) (S2 := (4, [some (.ref 84), some (.int v1), some (.int (v2 + v3)), some (.int v3), z4], [], M)) (by decide +kernel) (hO := mm_own_275) rfl ?_
    cases h
    exact (show mp_275_4 L xs (d + 1) v1 (v2 + v3) M o from hA) (some (.int v3)) z4
noncomputable def mf_275_b4 (v1 : Int32) (v2 : Int32) (M : mm_M) : mm_O ((Int32 × Int32) ⊕ (Int32)) := if v2 < (M.1 84 2) then (mm_B (mf_251 v2 (255 : Int32) M) (fun r1 M2 => mm_B (mf_275_L24 v2 r1 (v1, (0 : Int32)) M2) (fun r4 M3 => mf_275_j57 r4 v2 r1 M3))) else (some (.inl (.inr v1), M))
noncomputable def mf_275_L4 (s : Int32 × Int32) (M : mm_M) : mm_O (Int32) := mm_L (fun s M => mf_275_b4 s.1 s.2 M) s M
set_option maxRecDepth 8000 in
set_option maxHeartbeats 4000000 in
theorem ms_275_b4 {L : Nat} {xs : Nat → Int32} {d : Nat} (hd : 1 ≤ d) {v1 : Int32} {v2 : Int32} {M : mm_M} {q : (((Int32 × Int32) ⊕ (Int32)) ⊕ Nat) × mm_M} {o : mm_E} (h : mf_275_b4 v1 v2 M = some q) (hA : mm_A (mm_K2 (fun s M o => mp_275_4 L xs (d) s.1 s.2 M o) (fun r M o => mp_275_81 L xs (d) r M o)) q o) : mp_275_4 L xs d v1 v2 M o := by
  unfold mf_275_b4 at h
  obtain ⟨d, rfl⟩ := mm_d1 (n := 0) hd
  intro z3 z4
  show mm_Runs L xs (d + 1) 275 (4, [some (.ref 84), some (.int v1), some (.int v2), z3, z4], [], M) o
  refine mm_Runs.seq (l := [(4, .iload_n 2, 1), (5, .aload_n 0, 1), (6, .getfield 91, 3)]) (S2 := (9, [some (.ref 84), some (.int v1), some (.int v2), z3, z4], [.int (M.1 84 2), .int v2], M)) (by decide +kernel) (hO := mm_own_275) rfl ?_
  refine mm_R_ige (t := 81) rfl rfl rfl (fun hc => ?_) (fun hc => ?_)
  · replace h := mm_ip hc h
    refine mm_Runs.seq (l := [(12, .aload_n 0, 1), (13, .iload_n 2, 1), (14, .sipush 255, 3)]) (S2 := (17, [some (.ref 84), some (.int v1), some (.int v2), z3, z4], [.int (255 : Int32), .int v2, .ref 84], M)) (by decide +kernel) (hO := mm_own_275) rfl ?_
    refine mm_R_call (v := mm_wi) h hA (k2 := 251) (as := [.ref 84, .int v2, .int (255 : Int32)]) (r := []) rfl (fun _ => rfl) (fun q hq o ho => ms_251 (by omega) hq ho) (fun r1 M2 h => ?_)
    show mm_Runs L xs (d + 1) 275 (20, [some (.ref 84), some (.int v1), some (.int v2), z3, z4], [.int r1], M2) o
    refine mm_Runs.seq (l := [(20, .istore_n 3, 1), (21, .iconst 0, 1), (22, .istore 4, 2)]) (S2 := (24, [some (.ref 84), some (.int v1), some (.int v2), some (.int r1), some (.int (0 : Int32))], [], M2)) (by decide +kernel) (hO := mm_own_275) rfl ?_
    have hp : mp_275_24 L xs (d + 1) v1 v2 r1 (0 : Int32) M2 o := by
      refine ms_275_L24 hd h hA (fun r4 M3 h => ?_)
      intro y5
      show mm_Runs L xs (d + 1) 275 (57, [some (.ref 84), some (.int r4), some (.int v2), some (.int r1), y5], [], M3) o
      exact (ms_275_j57 hd h hA : mp_275_57 L xs (d + 1) r4 v2 r1 M3 o) y5
    exact hp
  · replace h := mm_iq hc h
    cases h
    exact (show mp_275_81 L xs (d + 1) v1 M o from hA) (some (.ref 84)) (some (.int v2)) z3 z4
theorem ms_275_L4 {L : Nat} {xs : Nat → Int32} {d : Nat} (hd : 1 ≤ d) {v1 : Int32} {v2 : Int32} {β : Type} {K : β → mm_M → mm_E → Prop} {F : (Int32) → mm_M → mm_O β} {M : mm_M} {q : (β ⊕ Nat) × mm_M} {o : mm_E} (h : mm_B (mf_275_L4 (v1, v2) M) F = some q) (hA : mm_A K q o) (hx : ∀ (r : (Int32)) (M2 : mm_M), F r M2 = some q → (fun r M o => mp_275_81 L xs (d) r M o) r M2 o) : mp_275_4 L xs d v1 v2 M o := mm_R_loop (s := (v1, v2)) (M := M) (P := (fun s M o => mp_275_4 L xs (d) s.1 s.2 M o)) (X := (fun r M o => mp_275_81 L xs (d) r M o)) h hA (fun s M q hq hA => ms_275_b4 hd hq hA) hx
noncomputable def mf_275 (M : mm_M) : mm_O Int32 := mm_B (mf_275_L4 ((0 : Int32), (0 : Int32)) M) (fun r2 M1 => some (.inl r2, M1))
set_option maxRecDepth 8000 in
set_option maxHeartbeats 4000000 in
theorem ms_275 {L : Nat} {xs : Nat → Int32} {d : Nat} (hd : 1 ≤ d) {M : mm_M} {q : (Int32 ⊕ Nat) × mm_M} {o : mm_E} (h : mf_275 M = some q) (hA : mm_A (mm_Kr mm_wi) q o) : mm_Runs L xs d 275 (0, mm_ent (mm_ml 275) [.ref 84], [], M) o := by
  unfold mf_275 at h
  obtain ⟨d, rfl⟩ := mm_d1 (n := 0) hd
  show mm_Runs L xs (d + 1) 275 (0, [some (.ref 84), none, none, none, none], [], M) o
  refine mm_Runs.seq (l := [(0, .iconst 0, 1), (1, .istore_n 1, 1), (2, .iconst 0, 1), (3, .istore_n 2, 1)]) (S2 := (4, [some (.ref 84), some (.int (0 : Int32)), some (.int (0 : Int32)), none, none], [], M)) (by decide +kernel) (hO := mm_own_275) rfl ?_
  have hp : mp_275_4 L xs (d + 1) (0 : Int32) (0 : Int32) M o := by
    refine ms_275_L4 hd h hA (fun r2 M1 h => ?_)
    intro y3 y4 y5 y6
    show mm_Runs L xs (d + 1) 275 (81, [y3, some (.int r2), y4, y5, y6], [], M1) o
    refine mm_Runs.seq (l := [(81, .iload_n 1, 1)]) (S2 := (82, [y3, some (.int r2), y4, y5, y6], [.int r2], M1)) (by decide +kernel) (hO := mm_own_275) rfl ?_
    cases h
    exact mm_R_reti rfl rfl hA
  exact hp none none
-- 270: PlainPacksModel.compare(IIII)I (depth 0)
theorem mm_own_270 : mm_own 270 = 12 := rfl
noncomputable def mf_270 (v1 : Int32) (v2 : Int32) (v3 : Int32) (v4 : Int32) (M : mm_M) : mm_O Int32 := if mm_in v1 12600 then if mm_in v2 12600 then if ((M.1 103 v1.toNatClampNeg) - (M.1 103 v2.toNatClampNeg)) = 0 then (if ¬ v4 = 0 then if mm_in (mm_rem (v1 + v3) v4) 12600 then if ¬ v4 = 0 then if mm_in (mm_rem (v2 + v3) v4) 12600 then some (.inl ((M.1 103 (mm_rem (v1 + v3) v4).toNatClampNeg) - (M.1 103 (mm_rem (v2 + v3) v4).toNatClampNeg)), M) else none else none else none else none) else (some (.inl ((M.1 103 v1.toNatClampNeg) - (M.1 103 v2.toNatClampNeg)), M)) else none else none
set_option maxRecDepth 8000 in
set_option maxHeartbeats 4000000 in
theorem ms_270 {L : Nat} {xs : Nat → Int32} {d : Nat} (hd : 0 ≤ d) {v1 : Int32} {v2 : Int32} {v3 : Int32} {v4 : Int32} {M : mm_M} {q : (Int32 ⊕ Nat) × mm_M} {o : mm_E} (h : mf_270 v1 v2 v3 v4 M = some q) (hA : mm_A (mm_Kr mm_wi) q o) : mm_Runs L xs d 270 (0, mm_ent (mm_ml 270) [.ref 84, .int v1, .int v2, .int v3, .int v4], [], M) o := by
  unfold mf_270 at h
  show mm_Runs L xs (d) 270 (0, [some (.ref 84), some (.int v1), some (.int v2), some (.int v3), some (.int v4), none], [], M) o
  refine mm_Runs.seq (l := [(0, .aload_n 0, 1), (1, .getfield 66, 3), (4, .iload_n 1, 1)]) (S2 := (5, [some (.ref 84), some (.int v1), some (.int v2), some (.int v3), some (.int v4), none], [.int v1, .ref 103], M)) (by decide +kernel) (hO := mm_own_270) rfl ?_
  obtain ⟨hb, h⟩ := mm_gd h
  refine mm_R_iald rfl rfl hb ?_
  refine mm_Runs.seq (l := [(6, .aload_n 0, 1), (7, .getfield 66, 3), (10, .iload_n 2, 1)]) (S2 := (11, [some (.ref 84), some (.int v1), some (.int v2), some (.int v3), some (.int v4), none], [.int v2, .ref 103, .int (M.1 103 v1.toNatClampNeg)], M)) (by decide +kernel) (hO := mm_own_270) rfl ?_
  obtain ⟨hb, h⟩ := mm_gd h
  refine mm_R_iald rfl rfl hb ?_
  refine mm_Runs.seq (l := [(12, .isub, 1), (13, .istore 5, 2), (15, .iload 5, 2)]) (S2 := (17, [some (.ref 84), some (.int v1), some (.int v2), some (.int v3), some (.int v4), some (.int ((M.1 103 v1.toNatClampNeg) - (M.1 103 v2.toNatClampNeg)))], [.int ((M.1 103 v1.toNatClampNeg) - (M.1 103 v2.toNatClampNeg))], M)) (by decide +kernel) (hO := mm_own_270) rfl ?_
  refine mm_R_zeq (t := 25) rfl rfl rfl (fun hc => ?_) (fun hc => ?_)
  · replace h := mm_ip hc h
    refine mm_Runs.seq (l := [(25, .aload_n 0, 1), (26, .getfield 66, 3), (29, .iload_n 1, 1), (30, .iload_n 3, 1), (31, .iadd, 1), (32, .iload 4, 2)]) (S2 := (34, [some (.ref 84), some (.int v1), some (.int v2), some (.int v3), some (.int v4), some (.int ((M.1 103 v1.toNatClampNeg) - (M.1 103 v2.toNatClampNeg)))], [.int v4, .int (v1 + v3), .ref 103], M)) (by decide +kernel) (hO := mm_own_270) rfl ?_
    obtain ⟨hb, h⟩ := mm_gd h
    refine mm_R_rem rfl hb ?_
    obtain ⟨hb, h⟩ := mm_gd h
    refine mm_R_iald rfl rfl hb ?_
    refine mm_Runs.seq (l := [(36, .aload_n 0, 1), (37, .getfield 66, 3), (40, .iload_n 2, 1), (41, .iload_n 3, 1), (42, .iadd, 1), (43, .iload 4, 2)]) (S2 := (45, [some (.ref 84), some (.int v1), some (.int v2), some (.int v3), some (.int v4), some (.int ((M.1 103 v1.toNatClampNeg) - (M.1 103 v2.toNatClampNeg)))], [.int v4, .int (v2 + v3), .ref 103, .int (M.1 103 (mm_rem (v1 + v3) v4).toNatClampNeg)], M)) (by decide +kernel) (hO := mm_own_270) rfl ?_
    obtain ⟨hb, h⟩ := mm_gd h
    refine mm_R_rem rfl hb ?_
    obtain ⟨hb, h⟩ := mm_gd h
    refine mm_R_iald rfl rfl hb ?_
    refine mm_Runs.seq (l := [(47, .isub, 1)]) (S2 := (48, [some (.ref 84), some (.int v1), some (.int v2), some (.int v3), some (.int v4), some (.int ((M.1 103 v1.toNatClampNeg) - (M.1 103 v2.toNatClampNeg)))], [.int ((M.1 103 (mm_rem (v1 + v3) v4).toNatClampNeg) - (M.1 103 (mm_rem (v2 + v3) v4).toNatClampNeg))], M)) (by decide +kernel) (hO := mm_own_270) rfl ?_
    cases h
    exact mm_R_reti rfl rfl hA
  · replace h := mm_iq hc h
    refine mm_Runs.seq (l := [(20, .iload 5, 2), (22, .goto 26, 3)]) (S2 := (48, [some (.ref 84), some (.int v1), some (.int v2), some (.int v3), some (.int v4), some (.int ((M.1 103 v1.toNatClampNeg) - (M.1 103 v2.toNatClampNeg)))], [.int ((M.1 103 v1.toNatClampNeg) - (M.1 103 v2.toNatClampNeg))], M)) (by decide +kernel) (hO := mm_own_270) rfl ?_
    cases h
    exact mm_R_reti rfl rfl hA
-- 272: PlainPacksModel.mergeBy(IIIII)V (depth 1)
theorem mm_own_272 : mm_own 272 = 12 := rfl
def mp_272_9 (L : Nat) (xs : Nat → Int32) (d : Nat) (v2 : Int32) (v3 : Int32) (v4 : Int32) (v5 : Int32) (v6 : Int32) (v7 : Int32) (v8 : Int32) (M : mm_M) (o : mm_E) : Prop := ∀ z1 z9 : Option Value, mm_Runs L xs d 272 (9, [some (.ref 84), z1, some (.int v2), some (.int v3), some (.int v4), some (.int v5), some (.int v6), some (.int v7), some (.int v8), z9], [], M) o
def mp_272_124 (L : Nat) (xs : Nat → Int32) (d : Nat) (M : mm_M) (o : mm_E) : Prop := ∀ z0 z1 z2 z3 z4 z5 z6 z7 z8 z9 : Option Value, mm_Runs L xs d 272 (124, [z0, z1, z2, z3, z4, z5, z6, z7, z8, z9], [], M) o
def mp_272_57 (L : Nat) (xs : Nat → Int32) (d : Nat) (v2 : Int32) (v3 : Int32) (v4 : Int32) (v5 : Int32) (v6 : Int32) (v7 : Int32) (v8 : Int32) (s0 : Int32) (M : mm_M) (o : mm_E) : Prop := ∀ z1 z9 : Option Value, mm_Runs L xs d 272 (57, [some (.ref 84), z1, some (.int v2), some (.int v3), some (.int v4), some (.int v5), some (.int v6), some (.int v7), some (.int v8), z9], [.int s0], M) o
def mp_272_87 (L : Nat) (xs : Nat → Int32) (d : Nat) (v2 : Int32) (v3 : Int32) (v4 : Int32) (v5 : Int32) (v6 : Int32) (v7 : Int32) (v8 : Int32) (v9 : Int32) (s1 : Int32) (s2 : Int32) (M : mm_M) (o : mm_E) : Prop := ∀ z1 : Option Value, mm_Runs L xs d 272 (87, [some (.ref 84), z1, some (.int v2), some (.int v3), some (.int v4), some (.int v5), some (.int v6), some (.int v7), some (.int v8), some (.int v9)], [.int s2, .int s1, .ref 106], M) o
def mp_272_100 (L : Nat) (xs : Nat → Int32) (d : Nat) (v2 : Int32) (v3 : Int32) (v4 : Int32) (v5 : Int32) (v7 : Int32) (v8 : Int32) (v9 : Int32) (s0 : Int32) (s1 : Int32) (M : mm_M) (o : mm_E) : Prop := ∀ z1 z6 : Option Value, mm_Runs L xs d 272 (100, [some (.ref 84), z1, some (.int v2), some (.int v3), some (.int v4), some (.int v5), z6, some (.int v7), some (.int v8), some (.int v9)], [.int s1, .int s0], M) o
noncomputable def mf_272_j100 (v2 : Int32) (v3 : Int32) (v4 : Int32) (v5 : Int32) (v7 : Int32) (v8 : Int32) (v9 : Int32) (s0 : Int32) (s1 : Int32) (M : mm_M) : mm_O ((Int32 × Int32 × Int32) ⊕ (Unit)) := if v9 = 0 then (some (.inl (.inl ((s0 + s1), (v7 + (1 : Int32)), (v8 + (1 : Int32)))), M)) else (some (.inl (.inl ((s0 + s1), (v7 + (0 : Int32)), (v8 + (1 : Int32)))), M))
set_option maxRecDepth 8000 in
set_option maxHeartbeats 4000000 in
theorem ms_272_j100 {L : Nat} {xs : Nat → Int32} {d : Nat} (hd : 1 ≤ d) {v2 : Int32} {v3 : Int32} {v4 : Int32} {v5 : Int32} {v7 : Int32} {v8 : Int32} {v9 : Int32} {s0 : Int32} {s1 : Int32} {M : mm_M} {q : (((Int32 × Int32 × Int32) ⊕ (Unit)) ⊕ Nat) × mm_M} {o : mm_E} (h : mf_272_j100 v2 v3 v4 v5 v7 v8 v9 s0 s1 M = some q) (hA : mm_A (mm_K2 (fun s M o => mp_272_9 L xs (d) v2 v3 v4 v5 s.1 s.2.1 s.2.2 M o) (fun r M o => mp_272_124 L xs (d) M o)) q o) : mp_272_100 L xs d v2 v3 v4 v5 v7 v8 v9 s0 s1 M o := by
  unfold mf_272_j100 at h
  obtain ⟨d, rfl⟩ := mm_d1 (n := 0) hd
  intro z1 z6
  show mm_Runs L xs (d + 1) 272 (100, [some (.ref 84), z1, some (.int v2), some (.int v3), some (.int v4), some (.int v5), z6, some (.int v7), some (.int v8), some (.int v9)], [.int s1, .int s0], M) o
  refine mm_Runs.seq (l := [(100, .iadd, 1), (101, .istore 6, 2), (103, .iload 7, 2), (105, .iload 9, 2)]) (S2 := (107, [some (.ref 84), z1, some (.int v2), some (.int v3), some (.int v4), some (.int v5), some (.int (s0 + s1)), some (.int v7), some (.int v8), some (.int v9)], [.int v9, .int v7], M)) (by decide +kernel) (hO := mm_own_272) rfl ?_
  refine mm_R_zeq (t := 114) rfl rfl rfl (fun hc => ?_) (fun hc => ?_)
  · replace h := mm_ip hc h
    refine mm_Runs.seq (l := [(114, .iconst 1, 1), (115, .iadd, 1), (116, .istore 7, 2), (118, .iinc 8 1, 3), (121, .goto (-112), 3)]) (S2 := (9, [some (.ref 84), z1, some (.int v2), some (.int v3), some (.int v4), some (.int v5), some (.int (s0 + s1)), some (.int (v7 + (1 : Int32))), some (.int (v8 + (1 : Int32))), some (.int v9)], [], M)) (by decide +kernel) (hO := mm_own_272) rfl ?_
    cases h
    exact (show mp_272_9 L xs (d + 1) v2 v3 v4 v5 (s0 + s1) (v7 + (1 : Int32)) (v8 + (1 : Int32)) M o from hA) z1 (some (.int v9))
  · replace h := mm_iq hc h
    refine mm_Runs.seq (l := [(110, .iconst 0, 1), (111, .goto 4, 3), (115, .iadd, 1), (116, .istore 7, 2), (118, .iinc 8 1, 3), (121, .goto (-112), 3)]) (S2 := (9, [some (.ref 84), z1, some (.int v2), some (.int v3), some (.int v4), some (.int v5), some (.int (s0 + s1)), some (.int (v7 + (0 : Int32))), some (.int (v8 + (1 : Int32))), some (.int v9)], [], M)) (by decide +kernel) (hO := mm_own_272) rfl ?_
    cases h
    exact (show mp_272_9 L xs (d + 1) v2 v3 v4 v5 (s0 + s1) (v7 + (0 : Int32)) (v8 + (1 : Int32)) M o from hA) z1 (some (.int v9))
noncomputable def mf_272_j87 (v2 : Int32) (v3 : Int32) (v4 : Int32) (v5 : Int32) (v6 : Int32) (v7 : Int32) (v8 : Int32) (v9 : Int32) (s1 : Int32) (s2 : Int32) (M : mm_M) : mm_O ((Int32 × Int32 × Int32) ⊕ (Unit)) := if mm_in s1 12600 then if v9 = 0 then (mf_272_j100 v2 v3 v4 v5 v7 v8 v9 v6 (0 : Int32) (mm_pi M 106 s1.toNatClampNeg s2)) else (mf_272_j100 v2 v3 v4 v5 v7 v8 v9 v6 (1 : Int32) (mm_pi M 106 s1.toNatClampNeg s2)) else none
set_option maxRecDepth 8000 in
set_option maxHeartbeats 4000000 in
theorem ms_272_j87 {L : Nat} {xs : Nat → Int32} {d : Nat} (hd : 1 ≤ d) {v2 : Int32} {v3 : Int32} {v4 : Int32} {v5 : Int32} {v6 : Int32} {v7 : Int32} {v8 : Int32} {v9 : Int32} {s1 : Int32} {s2 : Int32} {M : mm_M} {q : (((Int32 × Int32 × Int32) ⊕ (Unit)) ⊕ Nat) × mm_M} {o : mm_E} (h : mf_272_j87 v2 v3 v4 v5 v6 v7 v8 v9 s1 s2 M = some q) (hA : mm_A (mm_K2 (fun s M o => mp_272_9 L xs (d) v2 v3 v4 v5 s.1 s.2.1 s.2.2 M o) (fun r M o => mp_272_124 L xs (d) M o)) q o) : mp_272_87 L xs d v2 v3 v4 v5 v6 v7 v8 v9 s1 s2 M o := by
  unfold mf_272_j87 at h
  obtain ⟨d, rfl⟩ := mm_d1 (n := 0) hd
  intro z1
  show mm_Runs L xs (d + 1) 272 (87, [some (.ref 84), z1, some (.int v2), some (.int v3), some (.int v4), some (.int v5), some (.int v6), some (.int v7), some (.int v8), some (.int v9)], [.int s2, .int s1, .ref 106], M) o
  obtain ⟨hb, h⟩ := mm_gd h
  refine mm_R_iast rfl rfl hb ?_
  refine mm_Runs.seq (l := [(88, .iload 6, 2), (90, .iload 9, 2)]) (S2 := (92, [some (.ref 84), z1, some (.int v2), some (.int v3), some (.int v4), some (.int v5), some (.int v6), some (.int v7), some (.int v8), some (.int v9)], [.int v9, .int v6], (mm_pi M 106 s1.toNatClampNeg s2))) (by decide +kernel) (hO := mm_own_272) rfl ?_
  refine mm_R_zeq (t := 99) rfl rfl rfl (fun hc => ?_) (fun hc => ?_)
  · replace h := mm_ip hc h
    refine mm_Runs.seq (l := [(99, .iconst 0, 1)]) (S2 := (100, [some (.ref 84), z1, some (.int v2), some (.int v3), some (.int v4), some (.int v5), some (.int v6), some (.int v7), some (.int v8), some (.int v9)], [.int (0 : Int32), .int v6], (mm_pi M 106 s1.toNatClampNeg s2))) (by decide +kernel) (hO := mm_own_272) rfl ?_
    exact (ms_272_j100 hd h hA : mp_272_100 L xs (d + 1) v2 v3 v4 v5 v7 v8 v9 v6 (0 : Int32) (mm_pi M 106 s1.toNatClampNeg s2) o) z1 (some (.int v6))
  · replace h := mm_iq hc h
    refine mm_Runs.seq (l := [(95, .iconst 1, 1), (96, .goto 4, 3)]) (S2 := (100, [some (.ref 84), z1, some (.int v2), some (.int v3), some (.int v4), some (.int v5), some (.int v6), some (.int v7), some (.int v8), some (.int v9)], [.int (1 : Int32), .int v6], (mm_pi M 106 s1.toNatClampNeg s2))) (by decide +kernel) (hO := mm_own_272) rfl ?_
    exact (ms_272_j100 hd h hA : mp_272_100 L xs (d + 1) v2 v3 v4 v5 v7 v8 v9 v6 (1 : Int32) (mm_pi M 106 s1.toNatClampNeg s2) o) z1 (some (.int v6))
noncomputable def mf_272_j57 (v2 : Int32) (v3 : Int32) (v4 : Int32) (v5 : Int32) (v6 : Int32) (v7 : Int32) (v8 : Int32) (s0 : Int32) (M : mm_M) : mm_O ((Int32 × Int32 × Int32) ⊕ (Unit)) := if s0 = 0 then (if mm_in v7 12600 then mf_272_j87 v2 v3 v4 v5 v6 v7 v8 s0 v8 (M.1 105 v7.toNatClampNeg) M else none) else (if mm_in v6 12600 then mf_272_j87 v2 v3 v4 v5 v6 v7 v8 s0 v8 (M.1 105 v6.toNatClampNeg) M else none)
set_option maxRecDepth 8000 in
set_option maxHeartbeats 4000000 in
theorem ms_272_j57 {L : Nat} {xs : Nat → Int32} {d : Nat} (hd : 1 ≤ d) {v2 : Int32} {v3 : Int32} {v4 : Int32} {v5 : Int32} {v6 : Int32} {v7 : Int32} {v8 : Int32} {s0 : Int32} {M : mm_M} {q : (((Int32 × Int32 × Int32) ⊕ (Unit)) ⊕ Nat) × mm_M} {o : mm_E} (h : mf_272_j57 v2 v3 v4 v5 v6 v7 v8 s0 M = some q) (hA : mm_A (mm_K2 (fun s M o => mp_272_9 L xs (d) v2 v3 v4 v5 s.1 s.2.1 s.2.2 M o) (fun r M o => mp_272_124 L xs (d) M o)) q o) : mp_272_57 L xs d v2 v3 v4 v5 v6 v7 v8 s0 M o := by
  unfold mf_272_j57 at h
  obtain ⟨d, rfl⟩ := mm_d1 (n := 0) hd
  intro z1 z9
  show mm_Runs L xs (d + 1) 272 (57, [some (.ref 84), z1, some (.int v2), some (.int v3), some (.int v4), some (.int v5), some (.int v6), some (.int v7), some (.int v8), z9], [.int s0], M) o
  refine mm_Runs.seq (l := [(57, .istore 9, 2), (59, .aload_n 0, 1), (60, .getfield 75, 3), (63, .iload 8, 2), (65, .iload 9, 2)]) (S2 := (67, [some (.ref 84), z1, some (.int v2), some (.int v3), some (.int v4), some (.int v5), some (.int v6), some (.int v7), some (.int v8), some (.int s0)], [.int s0, .int v8, .ref 106], M)) (by decide +kernel) (hO := mm_own_272) rfl ?_
  refine mm_R_zeq (t := 80) rfl rfl rfl (fun hc => ?_) (fun hc => ?_)
  · replace h := mm_ip hc h
    refine mm_Runs.seq (l := [(80, .aload_n 0, 1), (81, .getfield 72, 3), (84, .iload 7, 2)]) (S2 := (86, [some (.ref 84), z1, some (.int v2), some (.int v3), some (.int v4), some (.int v5), some (.int v6), some (.int v7), some (.int v8), some (.int s0)], [.int v7, .ref 105, .int v8, .ref 106], M)) (by decide +kernel) (hO := mm_own_272) rfl ?_
    obtain ⟨hb, h⟩ := mm_gd h
    refine mm_R_iald rfl rfl hb ?_
    exact (ms_272_j87 hd h hA : mp_272_87 L xs (d + 1) v2 v3 v4 v5 v6 v7 v8 s0 v8 (M.1 105 v7.toNatClampNeg) M o) z1
  · replace h := mm_iq hc h
    refine mm_Runs.seq (l := [(70, .aload_n 0, 1), (71, .getfield 72, 3), (74, .iload 6, 2)]) (S2 := (76, [some (.ref 84), z1, some (.int v2), some (.int v3), some (.int v4), some (.int v5), some (.int v6), some (.int v7), some (.int v8), some (.int s0)], [.int v6, .ref 105, .int v8, .ref 106], M)) (by decide +kernel) (hO := mm_own_272) rfl ?_
    obtain ⟨hb, h⟩ := mm_gd h
    refine mm_R_iald rfl rfl hb ?_
    refine mm_Runs.seq (l := [(77, .goto 10, 3)]) (S2 := (87, [some (.ref 84), z1, some (.int v2), some (.int v3), some (.int v4), some (.int v5), some (.int v6), some (.int v7), some (.int v8), some (.int s0)], [.int (M.1 105 v6.toNatClampNeg), .int v8, .ref 106], M)) (by decide +kernel) (hO := mm_own_272) rfl ?_
    exact (ms_272_j87 hd h hA : mp_272_87 L xs (d + 1) v2 v3 v4 v5 v6 v7 v8 s0 v8 (M.1 105 v6.toNatClampNeg) M o) z1
def mp_272_56 (L : Nat) (xs : Nat → Int32) (d : Nat) (v2 : Int32) (v3 : Int32) (v4 : Int32) (v5 : Int32) (v6 : Int32) (v7 : Int32) (v8 : Int32) (M : mm_M) (o : mm_E) : Prop := ∀ z1 z9 : Option Value, mm_Runs L xs d 272 (56, [some (.ref 84), z1, some (.int v2), some (.int v3), some (.int v4), some (.int v5), some (.int v6), some (.int v7), some (.int v8), z9], [], M) o
noncomputable def mf_272_j56 (v2 : Int32) (v3 : Int32) (v4 : Int32) (v5 : Int32) (v6 : Int32) (v7 : Int32) (v8 : Int32) (M : mm_M) : mm_O ((Int32 × Int32 × Int32) ⊕ (Unit)) := mf_272_j57 v2 v3 v4 v5 v6 v7 v8 (0 : Int32) M
set_option maxRecDepth 8000 in
set_option maxHeartbeats 4000000 in
theorem ms_272_j56 {L : Nat} {xs : Nat → Int32} {d : Nat} (hd : 1 ≤ d) {v2 : Int32} {v3 : Int32} {v4 : Int32} {v5 : Int32} {v6 : Int32} {v7 : Int32} {v8 : Int32} {M : mm_M} {q : (((Int32 × Int32 × Int32) ⊕ (Unit)) ⊕ Nat) × mm_M} {o : mm_E} (h : mf_272_j56 v2 v3 v4 v5 v6 v7 v8 M = some q) (hA : mm_A (mm_K2 (fun s M o => mp_272_9 L xs (d) v2 v3 v4 v5 s.1 s.2.1 s.2.2 M o) (fun r M o => mp_272_124 L xs (d) M o)) q o) : mp_272_56 L xs d v2 v3 v4 v5 v6 v7 v8 M o := by
  unfold mf_272_j56 at h
  obtain ⟨d, rfl⟩ := mm_d1 (n := 0) hd
  intro z1 z9
  show mm_Runs L xs (d + 1) 272 (56, [some (.ref 84), z1, some (.int v2), some (.int v3), some (.int v4), some (.int v5), some (.int v6), some (.int v7), some (.int v8), z9], [], M) o
  refine mm_Runs.seq (l := [(56, .iconst 0, 1)]) (S2 := (57, [some (.ref 84), z1, some (.int v2), some (.int v3), some (.int v4), some (.int v5), some (.int v6), some (.int v7), some (.int v8), z9], [.int (0 : Int32)], M)) (by decide +kernel) (hO := mm_own_272) rfl ?_
  exact (ms_272_j57 hd h hA : mp_272_57 L xs (d + 1) v2 v3 v4 v5 v6 v7 v8 (0 : Int32) M o) z1 z9
noncomputable def mf_272_b9 (v2 : Int32) (v3 : Int32) (v4 : Int32) (v5 : Int32) (v6 : Int32) (v7 : Int32) (v8 : Int32) (M : mm_M) : mm_O ((Int32 × Int32 × Int32) ⊕ (Unit)) := if v8 < v3 then (if v7 = v3 then (mf_272_j57 v2 v3 v4 v5 v6 v7 v8 (1 : Int32) M) else (if v6 < v2 then (if mm_in v6 12600 then if mm_in v7 12600 then mm_B (mf_270 (M.1 105 v6.toNatClampNeg) (M.1 105 v7.toNatClampNeg) v4 v5 M) (fun r1 M2 => if 0 < r1 then (mf_272_j56 v2 v3 v4 v5 v6 v7 v8 M2) else (mf_272_j57 v2 v3 v4 v5 v6 v7 v8 (1 : Int32) M2)) else none else none) else (mf_272_j56 v2 v3 v4 v5 v6 v7 v8 M))) else (some (.inl (.inr ()), M))
noncomputable def mf_272_L9 (v2 : Int32) (v3 : Int32) (v4 : Int32) (v5 : Int32) (s : Int32 × Int32 × Int32) (M : mm_M) : mm_O (Unit) := mm_L (fun s M => mf_272_b9 v2 v3 v4 v5 s.1 s.2.1 s.2.2 M) s M
set_option maxRecDepth 8000 in
set_option maxHeartbeats 4000000 in
theorem ms_272_b9 {L : Nat} {xs : Nat → Int32} {d : Nat} (hd : 1 ≤ d) {v2 : Int32} {v3 : Int32} {v4 : Int32} {v5 : Int32} {v6 : Int32} {v7 : Int32} {v8 : Int32} {M : mm_M} {q : (((Int32 × Int32 × Int32) ⊕ (Unit)) ⊕ Nat) × mm_M} {o : mm_E} (h : mf_272_b9 v2 v3 v4 v5 v6 v7 v8 M = some q) (hA : mm_A (mm_K2 (fun s M o => mp_272_9 L xs (d) v2 v3 v4 v5 s.1 s.2.1 s.2.2 M o) (fun r M o => mp_272_124 L xs (d) M o)) q o) : mp_272_9 L xs d v2 v3 v4 v5 v6 v7 v8 M o := by
  unfold mf_272_b9 at h
  obtain ⟨d, rfl⟩ := mm_d1 (n := 0) hd
  intro z1 z9
  show mm_Runs L xs (d + 1) 272 (9, [some (.ref 84), z1, some (.int v2), some (.int v3), some (.int v4), some (.int v5), some (.int v6), some (.int v7), some (.int v8), z9], [], M) o
  refine mm_Runs.seq (l := [(9, .iload 8, 2), (11, .iload_n 3, 1)]) (S2 := (12, [some (.ref 84), z1, some (.int v2), some (.int v3), some (.int v4), some (.int v5), some (.int v6), some (.int v7), some (.int v8), z9], [.int v3, .int v8], M)) (by decide +kernel) (hO := mm_own_272) rfl ?_
  refine mm_R_ige (t := 124) rfl rfl rfl (fun hc => ?_) (fun hc => ?_)
  · replace h := mm_ip hc h
    refine mm_Runs.seq (l := [(15, .iload 7, 2), (17, .iload_n 3, 1)]) (S2 := (18, [some (.ref 84), z1, some (.int v2), some (.int v3), some (.int v4), some (.int v5), some (.int v6), some (.int v7), some (.int v8), z9], [.int v3, .int v7], M)) (by decide +kernel) (hO := mm_own_272) rfl ?_
    refine mm_R_ieq (t := 52) rfl rfl rfl (fun hc => ?_) (fun hc => ?_)
    · replace h := mm_ip hc h
      refine mm_Runs.seq (l := [(52, .iconst 1, 1), (53, .goto 4, 3)]) (S2 := (57, [some (.ref 84), z1, some (.int v2), some (.int v3), some (.int v4), some (.int v5), some (.int v6), some (.int v7), some (.int v8), z9], [.int (1 : Int32)], M)) (by decide +kernel) (hO := mm_own_272) rfl ?_
      exact (ms_272_j57 hd h hA : mp_272_57 L xs (d + 1) v2 v3 v4 v5 v6 v7 v8 (1 : Int32) M o) z1 z9
    · replace h := mm_iq hc h
      refine mm_Runs.seq (l := [(21, .iload 6, 2), (23, .iload_n 2, 1)]) (S2 := (24, [some (.ref 84), z1, some (.int v2), some (.int v3), some (.int v4), some (.int v5), some (.int v6), some (.int v7), some (.int v8), z9], [.int v2, .int v6], M)) (by decide +kernel) (hO := mm_own_272) rfl ?_
      refine mm_R_ige (t := 56) rfl rfl rfl (fun hc => ?_) (fun hc => ?_)
      · replace h := mm_ip hc h
        refine mm_Runs.seq (l := [(27, .aload_n 0, 1), (28, .aload_n 0, 1), (29, .getfield 72, 3), (32, .iload 6, 2)]) (S2 := (34, [some (.ref 84), z1, some (.int v2), some (.int v3), some (.int v4), some (.int v5), some (.int v6), some (.int v7), some (.int v8), z9], [.int v6, .ref 105, .ref 84], M)) (by decide +kernel) (hO := mm_own_272) rfl ?_
        obtain ⟨hb, h⟩ := mm_gd h
        refine mm_R_iald rfl rfl hb ?_
        refine mm_Runs.seq (l := [(35, .aload_n 0, 1), (36, .getfield 72, 3), (39, .iload 7, 2)]) (S2 := (41, [some (.ref 84), z1, some (.int v2), some (.int v3), some (.int v4), some (.int v5), some (.int v6), some (.int v7), some (.int v8), z9], [.int v7, .ref 105, .int (M.1 105 v6.toNatClampNeg), .ref 84], M)) (by decide +kernel) (hO := mm_own_272) rfl ?_
        obtain ⟨hb, h⟩ := mm_gd h
        refine mm_R_iald rfl rfl hb ?_
        refine mm_Runs.seq (l := [(42, .iload 4, 2), (44, .iload 5, 2)]) (S2 := (46, [some (.ref 84), z1, some (.int v2), some (.int v3), some (.int v4), some (.int v5), some (.int v6), some (.int v7), some (.int v8), z9], [.int v5, .int v4, .int (M.1 105 v7.toNatClampNeg), .int (M.1 105 v6.toNatClampNeg), .ref 84], M)) (by decide +kernel) (hO := mm_own_272) rfl ?_
        refine mm_R_call (v := mm_wi) h hA (k2 := 270) (as := [.ref 84, .int (M.1 105 v6.toNatClampNeg), .int (M.1 105 v7.toNatClampNeg), .int v4, .int v5]) (r := []) rfl (fun _ => rfl) (fun q hq o ho => ms_270 (by omega) hq ho) (fun r1 M2 h => ?_)
        show mm_Runs L xs (d + 1) 272 (49, [some (.ref 84), z1, some (.int v2), some (.int v3), some (.int v4), some (.int v5), some (.int v6), some (.int v7), some (.int v8), z9], [.int r1], M2) o
        refine mm_R_zgt (t := 56) rfl rfl rfl (fun hc => ?_) (fun hc => ?_)
        · replace h := mm_ip hc h
          exact (ms_272_j56 hd h hA : mp_272_56 L xs (d + 1) v2 v3 v4 v5 v6 v7 v8 M2 o) z1 z9
        · replace h := mm_iq hc h
          refine mm_Runs.seq (l := [(52, .iconst 1, 1), (53, .goto 4, 3)]) (S2 := (57, [some (.ref 84), z1, some (.int v2), some (.int v3), some (.int v4), some (.int v5), some (.int v6), some (.int v7), some (.int v8), z9], [.int (1 : Int32)], M2)) (by decide +kernel) (hO := mm_own_272) rfl ?_
          exact (ms_272_j57 hd h hA : mp_272_57 L xs (d + 1) v2 v3 v4 v5 v6 v7 v8 (1 : Int32) M2 o) z1 z9
      · replace h := mm_iq hc h
        exact (ms_272_j56 hd h hA : mp_272_56 L xs (d + 1) v2 v3 v4 v5 v6 v7 v8 M o) z1 z9
  · replace h := mm_iq hc h
    cases h
    exact (show mp_272_124 L xs (d + 1) M o from hA) (some (.ref 84)) z1 (some (.int v2)) (some (.int v3)) (some (.int v4)) (some (.int v5)) (some (.int v6)) (some (.int v7)) (some (.int v8)) z9
theorem ms_272_L9 {L : Nat} {xs : Nat → Int32} {d : Nat} (hd : 1 ≤ d) {v2 : Int32} {v3 : Int32} {v4 : Int32} {v5 : Int32} {v6 : Int32} {v7 : Int32} {v8 : Int32} {β : Type} {K : β → mm_M → mm_E → Prop} {F : (Unit) → mm_M → mm_O β} {M : mm_M} {q : (β ⊕ Nat) × mm_M} {o : mm_E} (h : mm_B (mf_272_L9 v2 v3 v4 v5 (v6, v7, v8) M) F = some q) (hA : mm_A K q o) (hx : ∀ (r : (Unit)) (M2 : mm_M), F r M2 = some q → (fun r M o => mp_272_124 L xs (d) M o) r M2 o) : mp_272_9 L xs d v2 v3 v4 v5 v6 v7 v8 M o := mm_R_loop (s := (v6, v7, v8)) (M := M) (P := (fun s M o => mp_272_9 L xs (d) v2 v3 v4 v5 s.1 s.2.1 s.2.2 M o)) (X := (fun r M o => mp_272_124 L xs (d) M o)) h hA (fun s M q hq hA => ms_272_b9 hd hq hA) hx
noncomputable def mf_272 (v1 : Int32) (v2 : Int32) (v3 : Int32) (v4 : Int32) (v5 : Int32) (M : mm_M) : mm_O Unit := mm_B (mf_272_L9 v2 v3 v4 v5 (v1, v2, v1) M) (fun r2 M1 => some (.inl (), M1))
set_option maxRecDepth 8000 in
set_option maxHeartbeats 4000000 in
theorem ms_272 {L : Nat} {xs : Nat → Int32} {d : Nat} (hd : 1 ≤ d) {v1 : Int32} {v2 : Int32} {v3 : Int32} {v4 : Int32} {v5 : Int32} {M : mm_M} {q : (Unit ⊕ Nat) × mm_M} {o : mm_E} (h : mf_272 v1 v2 v3 v4 v5 M = some q) (hA : mm_A (mm_Kr mm_wv) q o) : mm_Runs L xs d 272 (0, mm_ent (mm_ml 272) [.ref 84, .int v1, .int v2, .int v3, .int v4, .int v5], [], M) o := by
  unfold mf_272 at h
  obtain ⟨d, rfl⟩ := mm_d1 (n := 0) hd
  show mm_Runs L xs (d + 1) 272 (0, [some (.ref 84), some (.int v1), some (.int v2), some (.int v3), some (.int v4), some (.int v5), none, none, none, none], [], M) o
  refine mm_Runs.seq (l := [(0, .iload_n 1, 1), (1, .istore 6, 2), (3, .iload_n 2, 1), (4, .istore 7, 2), (6, .iload_n 1, 1), (7, .istore 8, 2)]) (S2 := (9, [some (.ref 84), some (.int v1), some (.int v2), some (.int v3), some (.int v4), some (.int v5), some (.int v1), some (.int v2), some (.int v1), none], [], M)) (by decide +kernel) (hO := mm_own_272) rfl ?_
  have hp : mp_272_9 L xs (d + 1) v2 v3 v4 v5 v1 v2 v1 M o := by
    refine ms_272_L9 hd h hA (fun r2 M1 h => ?_)
    intro y3 y4 y5 y6 y7 y8 y9 y10 y11 y12
    show mm_Runs L xs (d + 1) 272 (124, [y3, y4, y5, y6, y7, y8, y9, y10, y11, y12], [], M1) o
    cases h
    exact mm_R_retv rfl rfl hA
  exact hp (some (.int v1)) none
-- 271: PlainPacksModel.sortBy(II)V (depth 2)
theorem mm_own_271 : mm_own 271 = 12 := rfl
def mp_271_2 (L : Nat) (xs : Nat → Int32) (d : Nat) (v1 : Int32) (v2 : Int32) (v3 : Int32) (M : mm_M) (o : mm_E) : Prop := ∀ z4 : Option Value, mm_Runs L xs d 271 (2, [some (.ref 84), some (.int v1), some (.int v2), some (.int v3), z4], [], M) o
def mp_271_107 (L : Nat) (xs : Nat → Int32) (d : Nat) (M : mm_M) (o : mm_E) : Prop := ∀ z0 z1 z2 z3 z4 : Option Value, mm_Runs L xs d 271 (107, [z0, z1, z2, z3, z4], [], M) o
def mp_271_10 (L : Nat) (xs : Nat → Int32) (d : Nat) (v1 : Int32) (v2 : Int32) (v3 : Int32) (v4 : Int32) (M : mm_M) (o : mm_E) : Prop := mm_Runs L xs d 271 (10, [some (.ref 84), some (.int v1), some (.int v2), some (.int v3), some (.int v4)], [], M) o
def mp_271_71 (L : Nat) (xs : Nat → Int32) (d : Nat) (v1 : Int32) (v2 : Int32) (v3 : Int32) (M : mm_M) (o : mm_E) : Prop := ∀ z4 : Option Value, mm_Runs L xs d 271 (71, [some (.ref 84), some (.int v1), some (.int v2), some (.int v3), z4], [], M) o
def mp_271_35 (L : Nat) (xs : Nat → Int32) (d : Nat) (v1 : Int32) (v2 : Int32) (v3 : Int32) (v4 : Int32) (s1 : Int32) (s2 : Int32) (M : mm_M) (o : mm_E) : Prop := mm_Runs L xs d 271 (35, [some (.ref 84), some (.int v1), some (.int v2), some (.int v3), some (.int v4)], [.int s2, .int s1, .ref 84], M) o
def mp_271_55 (L : Nat) (xs : Nat → Int32) (d : Nat) (v1 : Int32) (v2 : Int32) (v3 : Int32) (v4 : Int32) (s1 : Int32) (s2 : Int32) (s3 : Int32) (M : mm_M) (o : mm_E) : Prop := mm_Runs L xs d 271 (55, [some (.ref 84), some (.int v1), some (.int v2), some (.int v3), some (.int v4)], [.int s3, .int s2, .int s1, .ref 84], M) o
noncomputable def mf_271_j55 (v1 : Int32) (v2 : Int32) (v3 : Int32) (v4 : Int32) (s1 : Int32) (s2 : Int32) (s3 : Int32) (M : mm_M) : mm_O ((Int32) ⊕ (Unit)) := mm_B (mf_272 s1 s2 s3 v1 v2 M) (fun _ M1 => some (.inl (.inl (v4 + ((2 : Int32) * v3))), M1))
set_option maxRecDepth 8000 in
set_option maxHeartbeats 4000000 in
theorem ms_271_j55 {L : Nat} {xs : Nat → Int32} {d : Nat} (hd : 2 ≤ d) {v1 : Int32} {v2 : Int32} {v3 : Int32} {v4 : Int32} {s1 : Int32} {s2 : Int32} {s3 : Int32} {M : mm_M} {q : (((Int32) ⊕ (Unit)) ⊕ Nat) × mm_M} {o : mm_E} (h : mf_271_j55 v1 v2 v3 v4 s1 s2 s3 M = some q) (hA : mm_A (mm_K2 (fun s M o => mp_271_10 L xs (d) v1 v2 v3 s M o) (fun r M o => mp_271_71 L xs (d) v1 v2 v3 M o)) q o) : mp_271_55 L xs d v1 v2 v3 v4 s1 s2 s3 M o := by
  unfold mf_271_j55 at h
  obtain ⟨d, rfl⟩ := mm_d1 (n := 1) hd
  show mm_Runs L xs (d + 1) 271 (55, [some (.ref 84), some (.int v1), some (.int v2), some (.int v3), some (.int v4)], [.int s3, .int s2, .int s1, .ref 84], M) o
  refine mm_Runs.seq (l := [(55, .iload_n 1, 1), (56, .iload_n 2, 1)]) (S2 := (57, [some (.ref 84), some (.int v1), some (.int v2), some (.int v3), some (.int v4)], [.int v2, .int v1, .int s3, .int s2, .int s1, .ref 84], M)) (by decide +kernel) (hO := mm_own_271) rfl ?_
  refine mm_R_call (v := mm_wv) h hA (k2 := 272) (as := [.ref 84, .int s1, .int s2, .int s3, .int v1, .int v2]) (r := []) rfl (fun _ => rfl) (fun q hq o ho => ms_272 (by omega) hq ho) (fun _ M1 h => ?_)
  show mm_Runs L xs (d + 1) 271 (60, [some (.ref 84), some (.int v1), some (.int v2), some (.int v3), some (.int v4)], [], M1) o
  refine mm_Runs.seq (l := [(60, .iload 4, 2), (62, .iconst 2, 1), (63, .iload_n 3, 1), (64, .imul, 1), (65, .iadd, 1), (66, .istore 4, 2), (68, .goto (-58), 3)]) (S2 := (10, [some (.ref 84), some (.int v1), some (.int v2), some (.int v3), some (.int (v4 + ((2 : Int32) * v3)))], [], M1)) (by decide +kernel) (hO := mm_own_271) rfl ?_
  cases h
  exact (show mp_271_10 L xs (d + 1) v1 v2 v3 (v4 + ((2 : Int32) * v3)) M1 o from hA)
noncomputable def mf_271_j35 (v1 : Int32) (v2 : Int32) (v3 : Int32) (v4 : Int32) (s1 : Int32) (s2 : Int32) (M : mm_M) : mm_O ((Int32) ⊕ (Unit)) := if (v4 + ((2 : Int32) * v3)) < v2 then (mf_271_j55 v1 v2 v3 v4 s1 s2 (v4 + ((2 : Int32) * v3)) M) else (mf_271_j55 v1 v2 v3 v4 s1 s2 v2 M)
set_option maxRecDepth 8000 in
set_option maxHeartbeats 4000000 in
theorem ms_271_j35 {L : Nat} {xs : Nat → Int32} {d : Nat} (hd : 2 ≤ d) {v1 : Int32} {v2 : Int32} {v3 : Int32} {v4 : Int32} {s1 : Int32} {s2 : Int32} {M : mm_M} {q : (((Int32) ⊕ (Unit)) ⊕ Nat) × mm_M} {o : mm_E} (h : mf_271_j35 v1 v2 v3 v4 s1 s2 M = some q) (hA : mm_A (mm_K2 (fun s M o => mp_271_10 L xs (d) v1 v2 v3 s M o) (fun r M o => mp_271_71 L xs (d) v1 v2 v3 M o)) q o) : mp_271_35 L xs d v1 v2 v3 v4 s1 s2 M o := by
  unfold mf_271_j35 at h
  obtain ⟨d, rfl⟩ := mm_d1 (n := 1) hd
  show mm_Runs L xs (d + 1) 271 (35, [some (.ref 84), some (.int v1), some (.int v2), some (.int v3), some (.int v4)], [.int s2, .int s1, .ref 84], M) o
  refine mm_Runs.seq (l := [(35, .iload 4, 2), (37, .iconst 2, 1), (38, .iload_n 3, 1), (39, .imul, 1), (40, .iadd, 1), (41, .iload_n 2, 1)]) (S2 := (42, [some (.ref 84), some (.int v1), some (.int v2), some (.int v3), some (.int v4)], [.int v2, .int (v4 + ((2 : Int32) * v3)), .int s2, .int s1, .ref 84], M)) (by decide +kernel) (hO := mm_own_271) rfl ?_
  refine mm_R_ige (t := 54) rfl rfl rfl (fun hc => ?_) (fun hc => ?_)
  · replace h := mm_ip hc h
    refine mm_Runs.seq (l := [(45, .iload 4, 2), (47, .iconst 2, 1), (48, .iload_n 3, 1), (49, .imul, 1), (50, .iadd, 1), (51, .goto 4, 3)]) (S2 := (55, [some (.ref 84), some (.int v1), some (.int v2), some (.int v3), some (.int v4)], [.int (v4 + ((2 : Int32) * v3)), .int s2, .int s1, .ref 84], M)) (by decide +kernel) (hO := mm_own_271) rfl ?_
    exact (ms_271_j55 hd h hA : mp_271_55 L xs (d + 1) v1 v2 v3 v4 s1 s2 (v4 + ((2 : Int32) * v3)) M o)
  · replace h := mm_iq hc h
    refine mm_Runs.seq (l := [(54, .iload_n 2, 1)]) (S2 := (55, [some (.ref 84), some (.int v1), some (.int v2), some (.int v3), some (.int v4)], [.int v2, .int s2, .int s1, .ref 84], M)) (by decide +kernel) (hO := mm_own_271) rfl ?_
    exact (ms_271_j55 hd h hA : mp_271_55 L xs (d + 1) v1 v2 v3 v4 s1 s2 v2 M o)
noncomputable def mf_271_b10 (v1 : Int32) (v2 : Int32) (v3 : Int32) (v4 : Int32) (M : mm_M) : mm_O ((Int32) ⊕ (Unit)) := if v4 < v2 then (if (v4 + v3) < v2 then (mf_271_j35 v1 v2 v3 v4 v4 (v4 + v3) M) else (mf_271_j35 v1 v2 v3 v4 v4 v2 M)) else (some (.inl (.inr ()), M))
noncomputable def mf_271_L10 (v1 : Int32) (v2 : Int32) (v3 : Int32) (s : Int32) (M : mm_M) : mm_O (Unit) := mm_L (fun s M => mf_271_b10 v1 v2 v3 s M) s M
set_option maxRecDepth 8000 in
set_option maxHeartbeats 4000000 in
theorem ms_271_b10 {L : Nat} {xs : Nat → Int32} {d : Nat} (hd : 2 ≤ d) {v1 : Int32} {v2 : Int32} {v3 : Int32} {v4 : Int32} {M : mm_M} {q : (((Int32) ⊕ (Unit)) ⊕ Nat) × mm_M} {o : mm_E} (h : mf_271_b10 v1 v2 v3 v4 M = some q) (hA : mm_A (mm_K2 (fun s M o => mp_271_10 L xs (d) v1 v2 v3 s M o) (fun r M o => mp_271_71 L xs (d) v1 v2 v3 M o)) q o) : mp_271_10 L xs d v1 v2 v3 v4 M o := by
  unfold mf_271_b10 at h
  obtain ⟨d, rfl⟩ := mm_d1 (n := 1) hd
  show mm_Runs L xs (d + 1) 271 (10, [some (.ref 84), some (.int v1), some (.int v2), some (.int v3), some (.int v4)], [], M) o
  refine mm_Runs.seq (l := [(10, .iload 4, 2), (12, .iload_n 2, 1)]) (S2 := (13, [some (.ref 84), some (.int v1), some (.int v2), some (.int v3), some (.int v4)], [.int v2, .int v4], M)) (by decide +kernel) (hO := mm_own_271) rfl ?_
  refine mm_R_ige (t := 71) rfl rfl rfl (fun hc => ?_) (fun hc => ?_)
  · replace h := mm_ip hc h
    refine mm_Runs.seq (l := [(16, .aload_n 0, 1), (17, .iload 4, 2), (19, .iload 4, 2), (21, .iload_n 3, 1), (22, .iadd, 1), (23, .iload_n 2, 1)]) (S2 := (24, [some (.ref 84), some (.int v1), some (.int v2), some (.int v3), some (.int v4)], [.int v2, .int (v4 + v3), .int v4, .ref 84], M)) (by decide +kernel) (hO := mm_own_271) rfl ?_
    refine mm_R_ige (t := 34) rfl rfl rfl (fun hc => ?_) (fun hc => ?_)
    · replace h := mm_ip hc h
      refine mm_Runs.seq (l := [(27, .iload 4, 2), (29, .iload_n 3, 1), (30, .iadd, 1), (31, .goto 4, 3)]) (S2 := (35, [some (.ref 84), some (.int v1), some (.int v2), some (.int v3), some (.int v4)], [.int (v4 + v3), .int v4, .ref 84], M)) (by decide +kernel) (hO := mm_own_271) rfl ?_
      exact (ms_271_j35 hd h hA : mp_271_35 L xs (d + 1) v1 v2 v3 v4 v4 (v4 + v3) M o)
    · replace h := mm_iq hc h
      refine mm_Runs.seq (l := [(34, .iload_n 2, 1)]) (S2 := (35, [some (.ref 84), some (.int v1), some (.int v2), some (.int v3), some (.int v4)], [.int v2, .int v4, .ref 84], M)) (by decide +kernel) (hO := mm_own_271) rfl ?_
      exact (ms_271_j35 hd h hA : mp_271_35 L xs (d + 1) v1 v2 v3 v4 v4 v2 M o)
  · replace h := mm_iq hc h
    cases h
    exact (show mp_271_71 L xs (d + 1) v1 v2 v3 M o from hA) (some (.int v4))
theorem ms_271_L10 {L : Nat} {xs : Nat → Int32} {d : Nat} (hd : 2 ≤ d) {v1 : Int32} {v2 : Int32} {v3 : Int32} {v4 : Int32} {β : Type} {K : β → mm_M → mm_E → Prop} {F : (Unit) → mm_M → mm_O β} {M : mm_M} {q : (β ⊕ Nat) × mm_M} {o : mm_E} (h : mm_B (mf_271_L10 v1 v2 v3 v4 M) F = some q) (hA : mm_A K q o) (hx : ∀ (r : (Unit)) (M2 : mm_M), F r M2 = some q → (fun r M o => mp_271_71 L xs (d) v1 v2 v3 M o) r M2 o) : mp_271_10 L xs d v1 v2 v3 v4 M o := mm_R_loop (s := v4) (M := M) (P := (fun s M o => mp_271_10 L xs (d) v1 v2 v3 s M o)) (X := (fun r M o => mp_271_71 L xs (d) v1 v2 v3 M o)) h hA (fun s M q hq hA => ms_271_b10 hd hq hA) hx
def mp_271_74 (L : Nat) (xs : Nat → Int32) (d : Nat) (v1 : Int32) (v2 : Int32) (v3 : Int32) (v4 : Int32) (M : mm_M) (o : mm_E) : Prop := mm_Runs L xs d 271 (74, [some (.ref 84), some (.int v1), some (.int v2), some (.int v3), some (.int v4)], [], M) o
def mp_271_100 (L : Nat) (xs : Nat → Int32) (d : Nat) (v1 : Int32) (v2 : Int32) (v3 : Int32) (M : mm_M) (o : mm_E) : Prop := ∀ z4 : Option Value, mm_Runs L xs d 271 (100, [some (.ref 84), some (.int v1), some (.int v2), some (.int v3), z4], [], M) o
noncomputable def mf_271_b74 (v1 : Int32) (v2 : Int32) (v3 : Int32) (v4 : Int32) (M : mm_M) : mm_O ((Int32) ⊕ (Unit)) := if v4 < v2 then (if mm_in v4 12600 then if mm_in v4 12600 then some (.inl (.inl (v4 + (1 : Int32))), (mm_pi M 105 v4.toNatClampNeg (M.1 106 v4.toNatClampNeg))) else none else none) else (some (.inl (.inr ()), M))
noncomputable def mf_271_L74 (v1 : Int32) (v2 : Int32) (v3 : Int32) (s : Int32) (M : mm_M) : mm_O (Unit) := mm_L (fun s M => mf_271_b74 v1 v2 v3 s M) s M
set_option maxRecDepth 8000 in
set_option maxHeartbeats 4000000 in
theorem ms_271_b74 {L : Nat} {xs : Nat → Int32} {d : Nat} (hd : 2 ≤ d) {v1 : Int32} {v2 : Int32} {v3 : Int32} {v4 : Int32} {M : mm_M} {q : (((Int32) ⊕ (Unit)) ⊕ Nat) × mm_M} {o : mm_E} (h : mf_271_b74 v1 v2 v3 v4 M = some q) (hA : mm_A (mm_K2 (fun s M o => mp_271_74 L xs (d) v1 v2 v3 s M o) (fun r M o => mp_271_100 L xs (d) v1 v2 v3 M o)) q o) : mp_271_74 L xs d v1 v2 v3 v4 M o := by
  unfold mf_271_b74 at h
  obtain ⟨d, rfl⟩ := mm_d1 (n := 1) hd
  show mm_Runs L xs (d + 1) 271 (74, [some (.ref 84), some (.int v1), some (.int v2), some (.int v3), some (.int v4)], [], M) o
  refine mm_Runs.seq (l := [(74, .iload 4, 2), (76, .iload_n 2, 1)]) (S2 := (77, [some (.ref 84), some (.int v1), some (.int v2), some (.int v3), some (.int v4)], [.int v2, .int v4], M)) (by decide +kernel) (hO := mm_own_271) rfl ?_
  refine mm_R_ige (t := 100) rfl rfl rfl (fun hc => ?_) (fun hc => ?_)
  · replace h := mm_ip hc h
    refine mm_Runs.seq (l := [(80, .aload_n 0, 1), (81, .getfield 72, 3), (84, .iload 4, 2), (86, .aload_n 0, 1), (87, .getfield 75, 3), (90, .iload 4, 2)]) (S2 := (92, [some (.ref 84), some (.int v1), some (.int v2), some (.int v3), some (.int v4)], [.int v4, .ref 106, .int v4, .ref 105], M)) (by decide +kernel) (hO := mm_own_271) rfl ?_
    obtain ⟨hb, h⟩ := mm_gd h
    refine mm_R_iald rfl rfl hb ?_
    obtain ⟨hb, h⟩ := mm_gd h
    refine mm_R_iast rfl rfl hb ?_
    refine mm_Runs.seq (l := [(94, .iinc 4 1, 3), (97, .goto (-23), 3)]) (S2 := (74, [some (.ref 84), some (.int v1), some (.int v2), some (.int v3), some (.int (v4 + (1 : Int32)))], [], (mm_pi M 105 v4.toNatClampNeg (M.1 106 v4.toNatClampNeg)))) (by decide +kernel) (hO := mm_own_271) rfl ?_
    cases h
    exact (show mp_271_74 L xs (d + 1) v1 v2 v3 (v4 + (1 : Int32)) (mm_pi M 105 v4.toNatClampNeg (M.1 106 v4.toNatClampNeg)) o from hA)
  · replace h := mm_iq hc h
    cases h
    exact (show mp_271_100 L xs (d + 1) v1 v2 v3 M o from hA) (some (.int v4))
theorem ms_271_L74 {L : Nat} {xs : Nat → Int32} {d : Nat} (hd : 2 ≤ d) {v1 : Int32} {v2 : Int32} {v3 : Int32} {v4 : Int32} {β : Type} {K : β → mm_M → mm_E → Prop} {F : (Unit) → mm_M → mm_O β} {M : mm_M} {q : (β ⊕ Nat) × mm_M} {o : mm_E} (h : mm_B (mf_271_L74 v1 v2 v3 v4 M) F = some q) (hA : mm_A K q o) (hx : ∀ (r : (Unit)) (M2 : mm_M), F r M2 = some q → (fun r M o => mp_271_100 L xs (d) v1 v2 v3 M o) r M2 o) : mp_271_74 L xs d v1 v2 v3 v4 M o := mm_R_loop (s := v4) (M := M) (P := (fun s M o => mp_271_74 L xs (d) v1 v2 v3 s M o)) (X := (fun r M o => mp_271_100 L xs (d) v1 v2 v3 M o)) h hA (fun s M q hq hA => ms_271_b74 hd hq hA) hx
noncomputable def mf_271_b2 (v1 : Int32) (v2 : Int32) (v3 : Int32) (M : mm_M) : mm_O ((Int32) ⊕ (Unit)) := if v3 < v2 then (mm_B (mf_271_L10 v1 v2 v3 (0 : Int32) M) (fun r2 M1 => mm_B (mf_271_L74 v1 v2 v3 (0 : Int32) M1) (fun r5 M4 => some (.inl (.inl (v3 + v3)), M4)))) else (some (.inl (.inr ()), M))
noncomputable def mf_271_L2 (v1 : Int32) (v2 : Int32) (s : Int32) (M : mm_M) : mm_O (Unit) := mm_L (fun s M => mf_271_b2 v1 v2 s M) s M
set_option maxRecDepth 8000 in
set_option maxHeartbeats 4000000 in
theorem ms_271_b2 {L : Nat} {xs : Nat → Int32} {d : Nat} (hd : 2 ≤ d) {v1 : Int32} {v2 : Int32} {v3 : Int32} {M : mm_M} {q : (((Int32) ⊕ (Unit)) ⊕ Nat) × mm_M} {o : mm_E} (h : mf_271_b2 v1 v2 v3 M = some q) (hA : mm_A (mm_K2 (fun s M o => mp_271_2 L xs (d) v1 v2 s M o) (fun r M o => mp_271_107 L xs (d) M o)) q o) : mp_271_2 L xs d v1 v2 v3 M o := by
  unfold mf_271_b2 at h
  obtain ⟨d, rfl⟩ := mm_d1 (n := 1) hd
  intro z4
  show mm_Runs L xs (d + 1) 271 (2, [some (.ref 84), some (.int v1), some (.int v2), some (.int v3), z4], [], M) o
  refine mm_Runs.seq (l := [(2, .iload_n 3, 1), (3, .iload_n 2, 1)]) (S2 := (4, [some (.ref 84), some (.int v1), some (.int v2), some (.int v3), z4], [.int v2, .int v3], M)) (by decide +kernel) (hO := mm_own_271) rfl ?_
  refine mm_R_ige (t := 107) rfl rfl rfl (fun hc => ?_) (fun hc => ?_)
  · replace h := mm_ip hc h
    refine mm_Runs.seq (l := [(7, .iconst 0, 1), (8, .istore 4, 2)]) (S2 := (10, [some (.ref 84), some (.int v1), some (.int v2), some (.int v3), some (.int (0 : Int32))], [], M)) (by decide +kernel) (hO := mm_own_271) rfl ?_
    have hp : mp_271_10 L xs (d + 1) v1 v2 v3 (0 : Int32) M o := by
      refine ms_271_L10 hd h hA (fun r2 M1 h => ?_)
      intro y3
      show mm_Runs L xs (d + 1) 271 (71, [some (.ref 84), some (.int v1), some (.int v2), some (.int v3), y3], [], M1) o
      refine mm_Runs.seq (l := [(71, .iconst 0, 1), (72, .istore 4, 2)]) (S2 := (74, [some (.ref 84), some (.int v1), some (.int v2), some (.int v3), some (.int (0 : Int32))], [], M1)) (by decide +kernel) (hO := mm_own_271) rfl ?_
      have hp : mp_271_74 L xs (d + 1) v1 v2 v3 (0 : Int32) M1 o := by
        refine ms_271_L74 hd h hA (fun r5 M4 h => ?_)
        intro y6
        show mm_Runs L xs (d + 1) 271 (100, [some (.ref 84), some (.int v1), some (.int v2), some (.int v3), y6], [], M4) o
        refine mm_Runs.seq (l := [(100, .iload_n 3, 1), (101, .iload_n 3, 1), (102, .iadd, 1), (103, .istore_n 3, 1), (104, .goto (-102), 3)]) (S2 := (2, [some (.ref 84), some (.int v1), some (.int v2), some (.int (v3 + v3)), y6], [], M4)) (by decide +kernel) (hO := mm_own_271) rfl ?_
        cases h
        exact (show mp_271_2 L xs (d + 1) v1 v2 (v3 + v3) M4 o from hA) y6
      exact hp
    exact hp
  · replace h := mm_iq hc h
    cases h
    exact (show mp_271_107 L xs (d + 1) M o from hA) (some (.ref 84)) (some (.int v1)) (some (.int v2)) (some (.int v3)) z4
theorem ms_271_L2 {L : Nat} {xs : Nat → Int32} {d : Nat} (hd : 2 ≤ d) {v1 : Int32} {v2 : Int32} {v3 : Int32} {β : Type} {K : β → mm_M → mm_E → Prop} {F : (Unit) → mm_M → mm_O β} {M : mm_M} {q : (β ⊕ Nat) × mm_M} {o : mm_E} (h : mm_B (mf_271_L2 v1 v2 v3 M) F = some q) (hA : mm_A K q o) (hx : ∀ (r : (Unit)) (M2 : mm_M), F r M2 = some q → (fun r M o => mp_271_107 L xs (d) M o) r M2 o) : mp_271_2 L xs d v1 v2 v3 M o := mm_R_loop (s := v3) (M := M) (P := (fun s M o => mp_271_2 L xs (d) v1 v2 s M o)) (X := (fun r M o => mp_271_107 L xs (d) M o)) h hA (fun s M q hq hA => ms_271_b2 hd hq hA) hx
noncomputable def mf_271 (v1 : Int32) (v2 : Int32) (M : mm_M) : mm_O Unit := mm_B (mf_271_L2 v1 v2 (1 : Int32) M) (fun r2 M1 => some (.inl (), M1))
set_option maxRecDepth 8000 in
set_option maxHeartbeats 4000000 in
theorem ms_271 {L : Nat} {xs : Nat → Int32} {d : Nat} (hd : 2 ≤ d) {v1 : Int32} {v2 : Int32} {M : mm_M} {q : (Unit ⊕ Nat) × mm_M} {o : mm_E} (h : mf_271 v1 v2 M = some q) (hA : mm_A (mm_Kr mm_wv) q o) : mm_Runs L xs d 271 (0, mm_ent (mm_ml 271) [.ref 84, .int v1, .int v2], [], M) o := by
  unfold mf_271 at h
  obtain ⟨d, rfl⟩ := mm_d1 (n := 1) hd
  show mm_Runs L xs (d + 1) 271 (0, [some (.ref 84), some (.int v1), some (.int v2), none, none], [], M) o
  refine mm_Runs.seq (l := [(0, .iconst 1, 1), (1, .istore_n 3, 1)]) (S2 := (2, [some (.ref 84), some (.int v1), some (.int v2), some (.int (1 : Int32)), none], [], M)) (by decide +kernel) (hO := mm_own_271) rfl ?_
  have hp : mp_271_2 L xs (d + 1) v1 v2 (1 : Int32) M o := by
    refine ms_271_L2 hd h hA (fun r2 M1 h => ?_)
    intro y3 y4 y5 y6 y7
    show mm_Runs L xs (d + 1) 271 (107, [y3, y4, y5, y6, y7], [], M1) o
    cases h
    exact mm_R_retv rfl rfl hA
  exact hp none
-- 273: PlainPacksModel.turnAll(I)V (depth 3)
theorem mm_own_273 : mm_own 273 = 12 := rfl
def mp_273_2 (L : Nat) (xs : Nat → Int32) (d : Nat) (v1 : Int32) (v2 : Int32) (M : mm_M) (o : mm_E) : Prop := ∀ z3 z4 : Option Value, mm_Runs L xs d 273 (2, [some (.ref 84), some (.int v1), some (.int v2), z3, z4], [], M) o
def mp_273_32 (L : Nat) (xs : Nat → Int32) (d : Nat) (v1 : Int32) (M : mm_M) (o : mm_E) : Prop := ∀ z2 z3 z4 : Option Value, mm_Runs L xs d 273 (32, [some (.ref 84), some (.int v1), z2, z3, z4], [], M) o
noncomputable def mf_273_b2 (v1 : Int32) (v2 : Int32) (M : mm_M) : mm_O ((Int32) ⊕ (Unit)) := if v2 < v1 then (if mm_in v2 12600 then if mm_in v2 12600 then if mm_in v2 12600 then some (.inl (.inl (v2 + (1 : Int32))), (mm_pi (mm_pi M 103 v2.toNatClampNeg (M.1 102 v2.toNatClampNeg)) 105 v2.toNatClampNeg v2)) else none else none else none) else (some (.inl (.inr ()), M))
noncomputable def mf_273_L2 (v1 : Int32) (s : Int32) (M : mm_M) : mm_O (Unit) := mm_L (fun s M => mf_273_b2 v1 s M) s M
set_option maxRecDepth 8000 in
set_option maxHeartbeats 4000000 in
theorem ms_273_b2 {L : Nat} {xs : Nat → Int32} {d : Nat} (hd : 3 ≤ d) {v1 : Int32} {v2 : Int32} {M : mm_M} {q : (((Int32) ⊕ (Unit)) ⊕ Nat) × mm_M} {o : mm_E} (h : mf_273_b2 v1 v2 M = some q) (hA : mm_A (mm_K2 (fun s M o => mp_273_2 L xs (d) v1 s M o) (fun r M o => mp_273_32 L xs (d) v1 M o)) q o) : mp_273_2 L xs d v1 v2 M o := by
  unfold mf_273_b2 at h
  obtain ⟨d, rfl⟩ := mm_d1 (n := 2) hd
  intro z3 z4
  show mm_Runs L xs (d + 1) 273 (2, [some (.ref 84), some (.int v1), some (.int v2), z3, z4], [], M) o
  refine mm_Runs.seq (l := [(2, .iload_n 2, 1), (3, .iload_n 1, 1)]) (S2 := (4, [some (.ref 84), some (.int v1), some (.int v2), z3, z4], [.int v1, .int v2], M)) (by decide +kernel) (hO := mm_own_273) rfl ?_
  refine mm_R_ige (t := 32) rfl rfl rfl (fun hc => ?_) (fun hc => ?_)
  · replace h := mm_ip hc h
    refine mm_Runs.seq (l := [(7, .aload_n 0, 1), (8, .getfield 66, 3), (11, .iload_n 2, 1), (12, .aload_n 0, 1), (13, .getfield 63, 3), (16, .iload_n 2, 1)]) (S2 := (17, [some (.ref 84), some (.int v1), some (.int v2), z3, z4], [.int v2, .ref 102, .int v2, .ref 103], M)) (by decide +kernel) (hO := mm_own_273) rfl ?_
    obtain ⟨hb, h⟩ := mm_gd h
    refine mm_R_iald rfl rfl hb ?_
    obtain ⟨hb, h⟩ := mm_gd h
    refine mm_R_iast rfl rfl hb ?_
    refine mm_Runs.seq (l := [(19, .aload_n 0, 1), (20, .getfield 72, 3), (23, .iload_n 2, 1), (24, .iload_n 2, 1)]) (S2 := (25, [some (.ref 84), some (.int v1), some (.int v2), z3, z4], [.int v2, .int v2, .ref 105], (mm_pi M 103 v2.toNatClampNeg (M.1 102 v2.toNatClampNeg)))) (by decide +kernel) (hO := mm_own_273) rfl ?_
    obtain ⟨hb, h⟩ := mm_gd h
    refine mm_R_iast rfl rfl hb ?_
    refine mm_Runs.seq (l := [(26, .iinc 2 1, 3), (29, .goto (-27), 3)]) (S2 := (2, [some (.ref 84), some (.int v1), some (.int (v2 + (1 : Int32))), z3, z4], [], (mm_pi (mm_pi M 103 v2.toNatClampNeg (M.1 102 v2.toNatClampNeg)) 105 v2.toNatClampNeg v2))) (by decide +kernel) (hO := mm_own_273) rfl ?_
    cases h
    exact (show mp_273_2 L xs (d + 1) v1 (v2 + (1 : Int32)) (mm_pi (mm_pi M 103 v2.toNatClampNeg (M.1 102 v2.toNatClampNeg)) 105 v2.toNatClampNeg v2) o from hA) z3 z4
  · replace h := mm_iq hc h
    cases h
    exact (show mp_273_32 L xs (d + 1) v1 M o from hA) (some (.int v2)) z3 z4
theorem ms_273_L2 {L : Nat} {xs : Nat → Int32} {d : Nat} (hd : 3 ≤ d) {v1 : Int32} {v2 : Int32} {β : Type} {K : β → mm_M → mm_E → Prop} {F : (Unit) → mm_M → mm_O β} {M : mm_M} {q : (β ⊕ Nat) × mm_M} {o : mm_E} (h : mm_B (mf_273_L2 v1 v2 M) F = some q) (hA : mm_A K q o) (hx : ∀ (r : (Unit)) (M2 : mm_M), F r M2 = some q → (fun r M o => mp_273_32 L xs (d) v1 M o) r M2 o) : mp_273_2 L xs d v1 v2 M o := mm_R_loop (s := v2) (M := M) (P := (fun s M o => mp_273_2 L xs (d) v1 s M o)) (X := (fun r M o => mp_273_32 L xs (d) v1 M o)) h hA (fun s M q hq hA => ms_273_b2 hd hq hA) hx
def mp_273_40 (L : Nat) (xs : Nat → Int32) (d : Nat) (v1 : Int32) (v2 : Int32) (M : mm_M) (o : mm_E) : Prop := ∀ z3 z4 : Option Value, mm_Runs L xs d 273 (40, [some (.ref 84), some (.int v1), some (.int v2), z3, z4], [], M) o
def mp_273_175 (L : Nat) (xs : Nat → Int32) (d : Nat) (M : mm_M) (o : mm_E) : Prop := ∀ z0 z1 z2 z3 z4 : Option Value, mm_Runs L xs d 273 (175, [z0, z1, z2, z3, z4], [], M) o
def mp_273_47 (L : Nat) (xs : Nat → Int32) (d : Nat) (v1 : Int32) (v2 : Int32) (v3 : Int32) (M : mm_M) (o : mm_E) : Prop := ∀ z4 : Option Value, mm_Runs L xs d 273 (47, [some (.ref 84), some (.int v1), some (.int v2), some (.int v3), z4], [], M) o
def mp_273_65 (L : Nat) (xs : Nat → Int32) (d : Nat) (v1 : Int32) (v2 : Int32) (M : mm_M) (o : mm_E) : Prop := ∀ z3 z4 : Option Value, mm_Runs L xs d 273 (65, [some (.ref 84), some (.int v1), some (.int v2), z3, z4], [], M) o
noncomputable def mf_273_b47 (v1 : Int32) (v2 : Int32) (v3 : Int32) (M : mm_M) : mm_O ((Int32) ⊕ (Unit)) := if v3 < v1 then (if mm_in v3 12600 then some (.inl (.inl (v3 + (1 : Int32))), (mm_pi M 105 v3.toNatClampNeg v3)) else none) else (some (.inl (.inr ()), M))
noncomputable def mf_273_L47 (v1 : Int32) (v2 : Int32) (s : Int32) (M : mm_M) : mm_O (Unit) := mm_L (fun s M => mf_273_b47 v1 v2 s M) s M
set_option maxRecDepth 8000 in
set_option maxHeartbeats 4000000 in
theorem ms_273_b47 {L : Nat} {xs : Nat → Int32} {d : Nat} (hd : 3 ≤ d) {v1 : Int32} {v2 : Int32} {v3 : Int32} {M : mm_M} {q : (((Int32) ⊕ (Unit)) ⊕ Nat) × mm_M} {o : mm_E} (h : mf_273_b47 v1 v2 v3 M = some q) (hA : mm_A (mm_K2 (fun s M o => mp_273_47 L xs (d) v1 v2 s M o) (fun r M o => mp_273_65 L xs (d) v1 v2 M o)) q o) : mp_273_47 L xs d v1 v2 v3 M o := by
  unfold mf_273_b47 at h
  obtain ⟨d, rfl⟩ := mm_d1 (n := 2) hd
  intro z4
  show mm_Runs L xs (d + 1) 273 (47, [some (.ref 84), some (.int v1), some (.int v2), some (.int v3), z4], [], M) o
  refine mm_Runs.seq (l := [(47, .iload_n 3, 1), (48, .iload_n 1, 1)]) (S2 := (49, [some (.ref 84), some (.int v1), some (.int v2), some (.int v3), z4], [.int v1, .int v3], M)) (by decide +kernel) (hO := mm_own_273) rfl ?_
  refine mm_R_ige (t := 65) rfl rfl rfl (fun hc => ?_) (fun hc => ?_)
  · replace h := mm_ip hc h
    refine mm_Runs.seq (l := [(52, .aload_n 0, 1), (53, .getfield 72, 3), (56, .iload_n 3, 1), (57, .iload_n 3, 1)]) (S2 := (58, [some (.ref 84), some (.int v1), some (.int v2), some (.int v3), z4], [.int v3, .int v3, .ref 105], M)) (by decide +kernel) (hO := mm_own_273) rfl ?_
    obtain ⟨hb, h⟩ := mm_gd h
    refine mm_R_iast rfl rfl hb ?_
    refine mm_Runs.seq (l := [(59, .iinc 3 1, 3), (62, .goto (-15), 3)]) (S2 := (47, [some (.ref 84), some (.int v1), some (.int v2), some (.int (v3 + (1 : Int32))), z4], [], (mm_pi M 105 v3.toNatClampNeg v3))) (by decide +kernel) (hO := mm_own_273) rfl ?_
    cases h
    exact (show mp_273_47 L xs (d + 1) v1 v2 (v3 + (1 : Int32)) (mm_pi M 105 v3.toNatClampNeg v3) o from hA) z4
  · replace h := mm_iq hc h
    cases h
    exact (show mp_273_65 L xs (d + 1) v1 v2 M o from hA) (some (.int v3)) z4
theorem ms_273_L47 {L : Nat} {xs : Nat → Int32} {d : Nat} (hd : 3 ≤ d) {v1 : Int32} {v2 : Int32} {v3 : Int32} {β : Type} {K : β → mm_M → mm_E → Prop} {F : (Unit) → mm_M → mm_O β} {M : mm_M} {q : (β ⊕ Nat) × mm_M} {o : mm_E} (h : mm_B (mf_273_L47 v1 v2 v3 M) F = some q) (hA : mm_A K q o) (hx : ∀ (r : (Unit)) (M2 : mm_M), F r M2 = some q → (fun r M o => mp_273_65 L xs (d) v1 v2 M o) r M2 o) : mp_273_47 L xs d v1 v2 v3 M o := mm_R_loop (s := v3) (M := M) (P := (fun s M o => mp_273_47 L xs (d) v1 v2 s M o)) (X := (fun r M o => mp_273_65 L xs (d) v1 v2 M o)) h hA (fun s M q hq hA => ms_273_b47 hd hq hA) hx
def mp_273_76 (L : Nat) (xs : Nat → Int32) (d : Nat) (v1 : Int32) (v2 : Int32) (v3 : Int32) (v4 : Int32) (M : mm_M) (o : mm_E) : Prop := mm_Runs L xs d 273 (76, [some (.ref 84), some (.int v1), some (.int v2), some (.int v3), some (.int v4)], [], M) o
def mp_273_139 (L : Nat) (xs : Nat → Int32) (d : Nat) (v1 : Int32) (v2 : Int32) (M : mm_M) (o : mm_E) : Prop := ∀ z3 z4 : Option Value, mm_Runs L xs d 273 (139, [some (.ref 84), some (.int v1), some (.int v2), z3, z4], [], M) o
def mp_273_117 (L : Nat) (xs : Nat → Int32) (d : Nat) (v1 : Int32) (v2 : Int32) (v4 : Int32) (s0 : Int32) (M : mm_M) (o : mm_E) : Prop := ∀ z3 : Option Value, mm_Runs L xs d 273 (117, [some (.ref 84), some (.int v1), some (.int v2), z3, some (.int v4)], [.int s0], M) o
def mp_273_118 (L : Nat) (xs : Nat → Int32) (d : Nat) (v1 : Int32) (v2 : Int32) (v4 : Int32) (s0 : Int32) (s1 : Int32) (M : mm_M) (o : mm_E) : Prop := ∀ z3 : Option Value, mm_Runs L xs d 273 (118, [some (.ref 84), some (.int v1), some (.int v2), z3, some (.int v4)], [.int s1, .int s0], M) o
noncomputable def mf_273_j118 (v1 : Int32) (v2 : Int32) (v4 : Int32) (s0 : Int32) (s1 : Int32) (M : mm_M) : mm_O ((Int32 × Int32) ⊕ (Unit)) := if mm_in v4 12600 then if mm_in (M.1 105 v4.toNatClampNeg) 12600 then some (.inl (.inl ((s0 + s1), (v4 + (1 : Int32)))), (mm_pi M 104 (M.1 105 v4.toNatClampNeg).toNatClampNeg (s0 + s1))) else none else none
set_option maxRecDepth 8000 in
set_option maxHeartbeats 4000000 in
theorem ms_273_j118 {L : Nat} {xs : Nat → Int32} {d : Nat} (hd : 3 ≤ d) {v1 : Int32} {v2 : Int32} {v4 : Int32} {s0 : Int32} {s1 : Int32} {M : mm_M} {q : (((Int32 × Int32) ⊕ (Unit)) ⊕ Nat) × mm_M} {o : mm_E} (h : mf_273_j118 v1 v2 v4 s0 s1 M = some q) (hA : mm_A (mm_K2 (fun s M o => mp_273_76 L xs (d) v1 v2 s.1 s.2 M o) (fun r M o => mp_273_139 L xs (d) v1 v2 M o)) q o) : mp_273_118 L xs d v1 v2 v4 s0 s1 M o := by
  unfold mf_273_j118 at h
  obtain ⟨d, rfl⟩ := mm_d1 (n := 2) hd
  intro z3
  show mm_Runs L xs (d + 1) 273 (118, [some (.ref 84), some (.int v1), some (.int v2), z3, some (.int v4)], [.int s1, .int s0], M) o
  refine mm_Runs.seq (l := [(118, .iadd, 1), (119, .istore_n 3, 1), (120, .aload_n 0, 1), (121, .getfield 69, 3), (124, .aload_n 0, 1), (125, .getfield 72, 3), (128, .iload 4, 2)]) (S2 := (130, [some (.ref 84), some (.int v1), some (.int v2), some (.int (s0 + s1)), some (.int v4)], [.int v4, .ref 105, .ref 104], M)) (by decide +kernel) (hO := mm_own_273) rfl ?_
  obtain ⟨hb, h⟩ := mm_gd h
  refine mm_R_iald rfl rfl hb ?_
  refine mm_Runs.seq (l := [(131, .iload_n 3, 1)]) (S2 := (132, [some (.ref 84), some (.int v1), some (.int v2), some (.int (s0 + s1)), some (.int v4)], [.int (s0 + s1), .int (M.1 105 v4.toNatClampNeg), .ref 104], M)) (by decide +kernel) (hO := mm_own_273) rfl ?_
  obtain ⟨hb, h⟩ := mm_gd h
  refine mm_R_iast rfl rfl hb ?_
  refine mm_Runs.seq (l := [(133, .iinc 4 1, 3), (136, .goto (-60), 3)]) (S2 := (76, [some (.ref 84), some (.int v1), some (.int v2), some (.int (s0 + s1)), some (.int (v4 + (1 : Int32)))], [], (mm_pi M 104 (M.1 105 v4.toNatClampNeg).toNatClampNeg (s0 + s1)))) (by decide +kernel) (hO := mm_own_273) rfl ?_
  cases h
  exact (show mp_273_76 L xs (d + 1) v1 v2 (s0 + s1) (v4 + (1 : Int32)) (mm_pi M 104 (M.1 105 v4.toNatClampNeg).toNatClampNeg (s0 + s1)) o from hA)
noncomputable def mf_273_j117 (v1 : Int32) (v2 : Int32) (v4 : Int32) (s0 : Int32) (M : mm_M) : mm_O ((Int32 × Int32) ⊕ (Unit)) := mf_273_j118 v1 v2 v4 s0 (0 : Int32) M
set_option maxRecDepth 8000 in
set_option maxHeartbeats 4000000 in
theorem ms_273_j117 {L : Nat} {xs : Nat → Int32} {d : Nat} (hd : 3 ≤ d) {v1 : Int32} {v2 : Int32} {v4 : Int32} {s0 : Int32} {M : mm_M} {q : (((Int32 × Int32) ⊕ (Unit)) ⊕ Nat) × mm_M} {o : mm_E} (h : mf_273_j117 v1 v2 v4 s0 M = some q) (hA : mm_A (mm_K2 (fun s M o => mp_273_76 L xs (d) v1 v2 s.1 s.2 M o) (fun r M o => mp_273_139 L xs (d) v1 v2 M o)) q o) : mp_273_117 L xs d v1 v2 v4 s0 M o := by
  unfold mf_273_j117 at h
  obtain ⟨d, rfl⟩ := mm_d1 (n := 2) hd
  intro z3
  show mm_Runs L xs (d + 1) 273 (117, [some (.ref 84), some (.int v1), some (.int v2), z3, some (.int v4)], [.int s0], M) o
  refine mm_Runs.seq (l := [(117, .iconst 0, 1)]) (S2 := (118, [some (.ref 84), some (.int v1), some (.int v2), z3, some (.int v4)], [.int (0 : Int32), .int s0], M)) (by decide +kernel) (hO := mm_own_273) rfl ?_
  exact (ms_273_j118 hd h hA : mp_273_118 L xs (d + 1) v1 v2 v4 s0 (0 : Int32) M o) z3
noncomputable def mf_273_b76 (v1 : Int32) (v2 : Int32) (v3 : Int32) (v4 : Int32) (M : mm_M) : mm_O ((Int32 × Int32) ⊕ (Unit)) := if v4 < v1 then (if 0 < v4 then (if mm_in (v4 - (1 : Int32)) 12600 then if mm_in v4 12600 then mm_B (mf_270 (M.1 105 (v4 - (1 : Int32)).toNatClampNeg) (M.1 105 v4.toNatClampNeg) v2 v1 M) (fun r1 M2 => if r1 = 0 then (mf_273_j117 v1 v2 v4 v3 M2) else (mf_273_j118 v1 v2 v4 v3 (1 : Int32) M2)) else none else none) else (mf_273_j117 v1 v2 v4 v3 M)) else (some (.inl (.inr ()), M))
noncomputable def mf_273_L76 (v1 : Int32) (v2 : Int32) (s : Int32 × Int32) (M : mm_M) : mm_O (Unit) := mm_L (fun s M => mf_273_b76 v1 v2 s.1 s.2 M) s M
set_option maxRecDepth 8000 in
set_option maxHeartbeats 4000000 in
theorem ms_273_b76 {L : Nat} {xs : Nat → Int32} {d : Nat} (hd : 3 ≤ d) {v1 : Int32} {v2 : Int32} {v3 : Int32} {v4 : Int32} {M : mm_M} {q : (((Int32 × Int32) ⊕ (Unit)) ⊕ Nat) × mm_M} {o : mm_E} (h : mf_273_b76 v1 v2 v3 v4 M = some q) (hA : mm_A (mm_K2 (fun s M o => mp_273_76 L xs (d) v1 v2 s.1 s.2 M o) (fun r M o => mp_273_139 L xs (d) v1 v2 M o)) q o) : mp_273_76 L xs d v1 v2 v3 v4 M o := by
  unfold mf_273_b76 at h
  obtain ⟨d, rfl⟩ := mm_d1 (n := 2) hd
  show mm_Runs L xs (d + 1) 273 (76, [some (.ref 84), some (.int v1), some (.int v2), some (.int v3), some (.int v4)], [], M) o
  refine mm_Runs.seq (l := [(76, .iload 4, 2), (78, .iload_n 1, 1)]) (S2 := (79, [some (.ref 84), some (.int v1), some (.int v2), some (.int v3), some (.int v4)], [.int v1, .int v4], M)) (by decide +kernel) (hO := mm_own_273) rfl ?_
  refine mm_R_ige (t := 139) rfl rfl rfl (fun hc => ?_) (fun hc => ?_)
  · replace h := mm_ip hc h
    refine mm_Runs.seq (l := [(82, .iload_n 3, 1), (83, .iload 4, 2)]) (S2 := (85, [some (.ref 84), some (.int v1), some (.int v2), some (.int v3), some (.int v4)], [.int v4, .int v3], M)) (by decide +kernel) (hO := mm_own_273) rfl ?_
    refine mm_R_zle (t := 117) rfl rfl rfl (fun hc => ?_) (fun hc => ?_)
    · replace h := mm_ip hc h
      refine mm_Runs.seq (l := [(88, .aload_n 0, 1), (89, .aload_n 0, 1), (90, .getfield 72, 3), (93, .iload 4, 2), (95, .iconst 1, 1), (96, .isub, 1)]) (S2 := (97, [some (.ref 84), some (.int v1), some (.int v2), some (.int v3), some (.int v4)], [.int (v4 - (1 : Int32)), .ref 105, .ref 84, .int v3], M)) (by decide +kernel) (hO := mm_own_273) rfl ?_
      obtain ⟨hb, h⟩ := mm_gd h
      refine mm_R_iald rfl rfl hb ?_
      refine mm_Runs.seq (l := [(98, .aload_n 0, 1), (99, .getfield 72, 3), (102, .iload 4, 2)]) (S2 := (104, [some (.ref 84), some (.int v1), some (.int v2), some (.int v3), some (.int v4)], [.int v4, .ref 105, .int (M.1 105 (v4 - (1 : Int32)).toNatClampNeg), .ref 84, .int v3], M)) (by decide +kernel) (hO := mm_own_273) rfl ?_
      obtain ⟨hb, h⟩ := mm_gd h
      refine mm_R_iald rfl rfl hb ?_
      refine mm_Runs.seq (l := [(105, .iload_n 2, 1), (106, .iload_n 1, 1)]) (S2 := (107, [some (.ref 84), some (.int v1), some (.int v2), some (.int v3), some (.int v4)], [.int v1, .int v2, .int (M.1 105 v4.toNatClampNeg), .int (M.1 105 (v4 - (1 : Int32)).toNatClampNeg), .ref 84, .int v3], M)) (by decide +kernel) (hO := mm_own_273) rfl ?_
      refine mm_R_call (v := mm_wi) h hA (k2 := 270) (as := [.ref 84, .int (M.1 105 (v4 - (1 : Int32)).toNatClampNeg), .int (M.1 105 v4.toNatClampNeg), .int v2, .int v1]) (r := [.int v3]) rfl (fun _ => rfl) (fun q hq o ho => ms_270 (by omega) hq ho) (fun r1 M2 h => ?_)
      show mm_Runs L xs (d + 1) 273 (110, [some (.ref 84), some (.int v1), some (.int v2), some (.int v3), some (.int v4)], [.int r1, .int v3], M2) o
      refine mm_R_zeq (t := 117) rfl rfl rfl (fun hc => ?_) (fun hc => ?_)
      · replace h := mm_ip hc h
        exact (ms_273_j117 hd h hA : mp_273_117 L xs (d + 1) v1 v2 v4 v3 M2 o) (some (.int v3))
      · replace h := mm_iq hc h
        refine mm_Runs.seq (l := [(113, .iconst 1, 1), (114, .goto 4, 3)]) (S2 := (118, [some (.ref 84), some (.int v1), some (.int v2), some (.int v3), some (.int v4)], [.int (1 : Int32), .int v3], M2)) (by decide +kernel) (hO := mm_own_273) rfl ?_
        exact (ms_273_j118 hd h hA : mp_273_118 L xs (d + 1) v1 v2 v4 v3 (1 : Int32) M2 o) (some (.int v3))
    · replace h := mm_iq hc h
      exact (ms_273_j117 hd h hA : mp_273_117 L xs (d + 1) v1 v2 v4 v3 M o) (some (.int v3))
  · replace h := mm_iq hc h
    cases h
    exact (show mp_273_139 L xs (d + 1) v1 v2 M o from hA) (some (.int v3)) (some (.int v4))
theorem ms_273_L76 {L : Nat} {xs : Nat → Int32} {d : Nat} (hd : 3 ≤ d) {v1 : Int32} {v2 : Int32} {v3 : Int32} {v4 : Int32} {β : Type} {K : β → mm_M → mm_E → Prop} {F : (Unit) → mm_M → mm_O β} {M : mm_M} {q : (β ⊕ Nat) × mm_M} {o : mm_E} (h : mm_B (mf_273_L76 v1 v2 (v3, v4) M) F = some q) (hA : mm_A K q o) (hx : ∀ (r : (Unit)) (M2 : mm_M), F r M2 = some q → (fun r M o => mp_273_139 L xs (d) v1 v2 M o) r M2 o) : mp_273_76 L xs d v1 v2 v3 v4 M o := mm_R_loop (s := (v3, v4)) (M := M) (P := (fun s M o => mp_273_76 L xs (d) v1 v2 s.1 s.2 M o)) (X := (fun r M o => mp_273_139 L xs (d) v1 v2 M o)) h hA (fun s M q hq hA => ms_273_b76 hd hq hA) hx
def mp_273_142 (L : Nat) (xs : Nat → Int32) (d : Nat) (v1 : Int32) (v2 : Int32) (v4 : Int32) (M : mm_M) (o : mm_E) : Prop := ∀ z3 : Option Value, mm_Runs L xs d 273 (142, [some (.ref 84), some (.int v1), some (.int v2), z3, some (.int v4)], [], M) o
def mp_273_168 (L : Nat) (xs : Nat → Int32) (d : Nat) (v1 : Int32) (v2 : Int32) (M : mm_M) (o : mm_E) : Prop := ∀ z3 z4 : Option Value, mm_Runs L xs d 273 (168, [some (.ref 84), some (.int v1), some (.int v2), z3, z4], [], M) o
noncomputable def mf_273_b142 (v1 : Int32) (v2 : Int32) (v4 : Int32) (M : mm_M) : mm_O ((Int32) ⊕ (Unit)) := if v4 < v1 then (if mm_in v4 12600 then if mm_in v4 12600 then some (.inl (.inl (v4 + (1 : Int32))), (mm_pi M 103 v4.toNatClampNeg (M.1 104 v4.toNatClampNeg))) else none else none) else (some (.inl (.inr ()), M))
noncomputable def mf_273_L142 (v1 : Int32) (v2 : Int32) (s : Int32) (M : mm_M) : mm_O (Unit) := mm_L (fun s M => mf_273_b142 v1 v2 s M) s M
set_option maxRecDepth 8000 in
set_option maxHeartbeats 4000000 in
theorem ms_273_b142 {L : Nat} {xs : Nat → Int32} {d : Nat} (hd : 3 ≤ d) {v1 : Int32} {v2 : Int32} {v4 : Int32} {M : mm_M} {q : (((Int32) ⊕ (Unit)) ⊕ Nat) × mm_M} {o : mm_E} (h : mf_273_b142 v1 v2 v4 M = some q) (hA : mm_A (mm_K2 (fun s M o => mp_273_142 L xs (d) v1 v2 s M o) (fun r M o => mp_273_168 L xs (d) v1 v2 M o)) q o) : mp_273_142 L xs d v1 v2 v4 M o := by
  unfold mf_273_b142 at h
  obtain ⟨d, rfl⟩ := mm_d1 (n := 2) hd
  intro z3
  show mm_Runs L xs (d + 1) 273 (142, [some (.ref 84), some (.int v1), some (.int v2), z3, some (.int v4)], [], M) o
  refine mm_Runs.seq (l := [(142, .iload 4, 2), (144, .iload_n 1, 1)]) (S2 := (145, [some (.ref 84), some (.int v1), some (.int v2), z3, some (.int v4)], [.int v1, .int v4], M)) (by decide +kernel) (hO := mm_own_273) rfl ?_
  refine mm_R_ige (t := 168) rfl rfl rfl (fun hc => ?_) (fun hc => ?_)
  · replace h := mm_ip hc h
    refine mm_Runs.seq (l := [(148, .aload_n 0, 1), (149, .getfield 66, 3), (152, .iload 4, 2), (154, .aload_n 0, 1), (155, .getfield 69, 3), (158, .iload 4, 2)]) (S2 := (160, [some (.ref 84), some (.int v1), some (.int v2), z3, some (.int v4)], [.int v4, .ref 104, .int v4, .ref 103], M)) (by decide +kernel) (hO := mm_own_273) rfl ?_
    obtain ⟨hb, h⟩ := mm_gd h
    refine mm_R_iald rfl rfl hb ?_
    obtain ⟨hb, h⟩ := mm_gd h
    refine mm_R_iast rfl rfl hb ?_
    refine mm_Runs.seq (l := [(162, .iinc 4 1, 3), (165, .goto (-23), 3)]) (S2 := (142, [some (.ref 84), some (.int v1), some (.int v2), (mm_no2 z3), some (.int (v4 + (1 : Int32)))], [], (mm_pi M 103 v4.toNatClampNeg (M.1 104 v4.toNatClampNeg)))) (by decide +kernel) (hO := mm_own_273) rfl ?_
    cases h
    exact (show mp_273_142 L xs (d + 1) v1 v2 (v4 + (1 : Int32)) (mm_pi M 103 v4.toNatClampNeg (M.1 104 v4.toNatClampNeg)) o from hA) ((mm_no2 z3))
  · replace h := mm_iq hc h
    cases h
    exact (show mp_273_168 L xs (d + 1) v1 v2 M o from hA) z3 (some (.int v4))
theorem ms_273_L142 {L : Nat} {xs : Nat → Int32} {d : Nat} (hd : 3 ≤ d) {v1 : Int32} {v2 : Int32} {v4 : Int32} {β : Type} {K : β → mm_M → mm_E → Prop} {F : (Unit) → mm_M → mm_O β} {M : mm_M} {q : (β ⊕ Nat) × mm_M} {o : mm_E} (h : mm_B (mf_273_L142 v1 v2 v4 M) F = some q) (hA : mm_A K q o) (hx : ∀ (r : (Unit)) (M2 : mm_M), F r M2 = some q → (fun r M o => mp_273_168 L xs (d) v1 v2 M o) r M2 o) : mp_273_142 L xs d v1 v2 v4 M o := mm_R_loop (s := v4) (M := M) (P := (fun s M o => mp_273_142 L xs (d) v1 v2 s M o)) (X := (fun r M o => mp_273_168 L xs (d) v1 v2 M o)) h hA (fun s M q hq hA => ms_273_b142 hd hq hA) hx
noncomputable def mf_273_j65 (v1 : Int32) (v2 : Int32) (M : mm_M) : mm_O ((Int32) ⊕ (Unit)) := mm_B (mf_271 v2 v1 M) (fun _ M1 => mm_B (mf_273_L76 v1 v2 ((0 : Int32), (0 : Int32)) M1) (fun r3 M2 => mm_B (mf_273_L142 v1 v2 (0 : Int32) M2) (fun r7 M6 => some (.inl (.inl (v2 + v2)), M6))))
set_option maxRecDepth 8000 in
set_option maxHeartbeats 4000000 in
theorem ms_273_j65 {L : Nat} {xs : Nat → Int32} {d : Nat} (hd : 3 ≤ d) {v1 : Int32} {v2 : Int32} {M : mm_M} {q : (((Int32) ⊕ (Unit)) ⊕ Nat) × mm_M} {o : mm_E} (h : mf_273_j65 v1 v2 M = some q) (hA : mm_A (mm_K2 (fun s M o => mp_273_40 L xs (d) v1 s M o) (fun r M o => mp_273_175 L xs (d) M o)) q o) : mp_273_65 L xs d v1 v2 M o := by
  unfold mf_273_j65 at h
  obtain ⟨d, rfl⟩ := mm_d1 (n := 2) hd
  intro z3 z4
  show mm_Runs L xs (d + 1) 273 (65, [some (.ref 84), some (.int v1), some (.int v2), z3, z4], [], M) o
  refine mm_Runs.seq (l := [(65, .aload_n 0, 1), (66, .iload_n 2, 1), (67, .iload_n 1, 1)]) (S2 := (68, [some (.ref 84), some (.int v1), some (.int v2), z3, z4], [.int v1, .int v2, .ref 84], M)) (by decide +kernel) (hO := mm_own_273) rfl ?_
  refine mm_R_call (v := mm_wv) h hA (k2 := 271) (as := [.ref 84, .int v2, .int v1]) (r := []) rfl (fun _ => rfl) (fun q hq o ho => ms_271 (by omega) hq ho) (fun _ M1 h => ?_)
  show mm_Runs L xs (d + 1) 273 (71, [some (.ref 84), some (.int v1), some (.int v2), z3, z4], [], M1) o
  refine mm_Runs.seq (l := [(71, .iconst 0, 1), (72, .istore_n 3, 1), (73, .iconst 0, 1), (74, .istore 4, 2)]) (S2 := (76, [some (.ref 84), some (.int v1), some (.int v2), some (.int (0 : Int32)), some (.int (0 : Int32))], [], M1)) (by decide +kernel) (hO := mm_own_273) rfl ?_
  have hp : mp_273_76 L xs (d + 1) v1 v2 (0 : Int32) (0 : Int32) M1 o := by
    refine ms_273_L76 hd h hA (fun r3 M2 h => ?_)
    intro y4 y5
    show mm_Runs L xs (d + 1) 273 (139, [some (.ref 84), some (.int v1), some (.int v2), y4, y5], [], M2) o
    refine mm_Runs.seq (l := [(139, .iconst 0, 1), (140, .istore 4, 2)]) (S2 := (142, [some (.ref 84), some (.int v1), some (.int v2), (mm_no2 y4), some (.int (0 : Int32))], [], M2)) (by decide +kernel) (hO := mm_own_273) rfl ?_
    have hp : mp_273_142 L xs (d + 1) v1 v2 (0 : Int32) M2 o := by
      refine ms_273_L142 hd h hA (fun r7 M6 h => ?_)
      intro y8 y9
      show mm_Runs L xs (d + 1) 273 (168, [some (.ref 84), some (.int v1), some (.int v2), y8, y9], [], M6) o
      refine mm_Runs.seq (l := [(168, .iload_n 2, 1), (169, .iload_n 2, 1), (170, .iadd, 1), (171, .istore_n 2, 1), (172, .goto (-132), 3)]) (S2 := (40, [some (.ref 84), some (.int v1), some (.int (v2 + v2)), y8, y9], [], M6)) (by decide +kernel) (hO := mm_own_273) rfl ?_
      cases h
      exact (show mp_273_40 L xs (d + 1) v1 (v2 + v2) M6 o from hA) y8 y9
    exact hp ((mm_no2 y4))
  exact hp
noncomputable def mf_273_b40 (v1 : Int32) (v2 : Int32) (M : mm_M) : mm_O ((Int32) ⊕ (Unit)) := if v2 < v1 then (mm_B (mf_273_L47 v1 v2 (0 : Int32) M) (fun r2 M1 => mf_273_j65 v1 v2 M1)) else (some (.inl (.inr ()), M))
noncomputable def mf_273_L40 (v1 : Int32) (s : Int32) (M : mm_M) : mm_O (Unit) := mm_L (fun s M => mf_273_b40 v1 s M) s M
set_option maxRecDepth 8000 in
set_option maxHeartbeats 4000000 in
theorem ms_273_b40 {L : Nat} {xs : Nat → Int32} {d : Nat} (hd : 3 ≤ d) {v1 : Int32} {v2 : Int32} {M : mm_M} {q : (((Int32) ⊕ (Unit)) ⊕ Nat) × mm_M} {o : mm_E} (h : mf_273_b40 v1 v2 M = some q) (hA : mm_A (mm_K2 (fun s M o => mp_273_40 L xs (d) v1 s M o) (fun r M o => mp_273_175 L xs (d) M o)) q o) : mp_273_40 L xs d v1 v2 M o := by
  unfold mf_273_b40 at h
  obtain ⟨d, rfl⟩ := mm_d1 (n := 2) hd
  intro z3 z4
  show mm_Runs L xs (d + 1) 273 (40, [some (.ref 84), some (.int v1), some (.int v2), z3, z4], [], M) o
  refine mm_Runs.seq (l := [(40, .iload_n 2, 1), (41, .iload_n 1, 1)]) (S2 := (42, [some (.ref 84), some (.int v1), some (.int v2), z3, z4], [.int v1, .int v2], M)) (by decide +kernel) (hO := mm_own_273) rfl ?_
  refine mm_R_ige (t := 175) rfl rfl rfl (fun hc => ?_) (fun hc => ?_)
  · replace h := mm_ip hc h
    refine mm_Runs.seq (l := [(45, .iconst 0, 1), (46, .istore_n 3, 1)]) (S2 := (47, [some (.ref 84), some (.int v1), some (.int v2), some (.int (0 : Int32)), z4], [], M)) (by decide +kernel) (hO := mm_own_273) rfl ?_
    have hp : mp_273_47 L xs (d + 1) v1 v2 (0 : Int32) M o := by
      refine ms_273_L47 hd h hA (fun r2 M1 h => ?_)
      intro y3 y4
      show mm_Runs L xs (d + 1) 273 (65, [some (.ref 84), some (.int v1), some (.int v2), y3, y4], [], M1) o
      exact (ms_273_j65 hd h hA : mp_273_65 L xs (d + 1) v1 v2 M1 o) y3 y4
    exact hp z4
  · replace h := mm_iq hc h
    cases h
    exact (show mp_273_175 L xs (d + 1) M o from hA) (some (.ref 84)) (some (.int v1)) (some (.int v2)) z3 z4
theorem ms_273_L40 {L : Nat} {xs : Nat → Int32} {d : Nat} (hd : 3 ≤ d) {v1 : Int32} {v2 : Int32} {β : Type} {K : β → mm_M → mm_E → Prop} {F : (Unit) → mm_M → mm_O β} {M : mm_M} {q : (β ⊕ Nat) × mm_M} {o : mm_E} (h : mm_B (mf_273_L40 v1 v2 M) F = some q) (hA : mm_A K q o) (hx : ∀ (r : (Unit)) (M2 : mm_M), F r M2 = some q → (fun r M o => mp_273_175 L xs (d) M o) r M2 o) : mp_273_40 L xs d v1 v2 M o := mm_R_loop (s := v2) (M := M) (P := (fun s M o => mp_273_40 L xs (d) v1 s M o)) (X := (fun r M o => mp_273_175 L xs (d) M o)) h hA (fun s M q hq hA => ms_273_b40 hd hq hA) hx
noncomputable def mf_273_j32 (v1 : Int32) (M : mm_M) : mm_O Unit := mm_B (mf_271 (0 : Int32) v1 M) (fun _ M1 => mm_B (mf_273_L40 v1 (1 : Int32) M1) (fun r3 M2 => some (.inl (), M2)))
set_option maxRecDepth 8000 in
set_option maxHeartbeats 4000000 in
theorem ms_273_j32 {L : Nat} {xs : Nat → Int32} {d : Nat} (hd : 3 ≤ d) {v1 : Int32} {M : mm_M} {q : (Unit ⊕ Nat) × mm_M} {o : mm_E} (h : mf_273_j32 v1 M = some q) (hA : mm_A (mm_Kr mm_wv) q o) : mp_273_32 L xs d v1 M o := by
  unfold mf_273_j32 at h
  obtain ⟨d, rfl⟩ := mm_d1 (n := 2) hd
  intro z2 z3 z4
  show mm_Runs L xs (d + 1) 273 (32, [some (.ref 84), some (.int v1), z2, z3, z4], [], M) o
  refine mm_Runs.seq (l := [(32, .aload_n 0, 1), (33, .iconst 0, 1), (34, .iload_n 1, 1)]) (S2 := (35, [some (.ref 84), some (.int v1), z2, z3, z4], [.int v1, .int (0 : Int32), .ref 84], M)) (by decide +kernel) (hO := mm_own_273) rfl ?_
  refine mm_R_call (v := mm_wv) h hA (k2 := 271) (as := [.ref 84, .int (0 : Int32), .int v1]) (r := []) rfl (fun _ => rfl) (fun q hq o ho => ms_271 (by omega) hq ho) (fun _ M1 h => ?_)
  show mm_Runs L xs (d + 1) 273 (38, [some (.ref 84), some (.int v1), z2, z3, z4], [], M1) o
  refine mm_Runs.seq (l := [(38, .iconst 1, 1), (39, .istore_n 2, 1)]) (S2 := (40, [some (.ref 84), some (.int v1), some (.int (1 : Int32)), z3, z4], [], M1)) (by decide +kernel) (hO := mm_own_273) rfl ?_
  have hp : mp_273_40 L xs (d + 1) v1 (1 : Int32) M1 o := by
    refine ms_273_L40 hd h hA (fun r3 M2 h => ?_)
    intro y4 y5 y6 y7 y8
    show mm_Runs L xs (d + 1) 273 (175, [y4, y5, y6, y7, y8], [], M2) o
    cases h
    exact mm_R_retv rfl rfl hA
  exact hp z3 z4
noncomputable def mf_273 (v1 : Int32) (M : mm_M) : mm_O Unit := mm_B (mf_273_L2 v1 (0 : Int32) M) (fun r2 M1 => mf_273_j32 v1 M1)
set_option maxRecDepth 8000 in
set_option maxHeartbeats 4000000 in
theorem ms_273 {L : Nat} {xs : Nat → Int32} {d : Nat} (hd : 3 ≤ d) {v1 : Int32} {M : mm_M} {q : (Unit ⊕ Nat) × mm_M} {o : mm_E} (h : mf_273 v1 M = some q) (hA : mm_A (mm_Kr mm_wv) q o) : mm_Runs L xs d 273 (0, mm_ent (mm_ml 273) [.ref 84, .int v1], [], M) o := by
  unfold mf_273 at h
  obtain ⟨d, rfl⟩ := mm_d1 (n := 2) hd
  show mm_Runs L xs (d + 1) 273 (0, [some (.ref 84), some (.int v1), none, none, none], [], M) o
  refine mm_Runs.seq (l := [(0, .iconst 0, 1), (1, .istore_n 2, 1)]) (S2 := (2, [some (.ref 84), some (.int v1), some (.int (0 : Int32)), none, none], [], M)) (by decide +kernel) (hO := mm_own_273) rfl ?_
  have hp : mp_273_2 L xs (d + 1) v1 (0 : Int32) M o := by
    refine ms_273_L2 hd h hA (fun r2 M1 h => ?_)
    intro y3 y4 y5
    show mm_Runs L xs (d + 1) 273 (32, [some (.ref 84), some (.int v1), y3, y4, y5], [], M1) o
    exact (ms_273_j32 hd h hA : mp_273_32 L xs (d + 1) v1 M1 o) y3 y4 y5
  exact hp none none
