/-! MEANINGS ARE SOUND 1 -/
-- 39: PlainPacks$Source.add(I)V (depth 0)
theorem mm_own_39 : mm_own 39 = 1 := rfl
def mp_39_3 (L : Nat) (xs : Nat → Int32) (d : Nat) (v1 : Int32) (v2 : Int32) (M : mm_M) (o : mm_E) : Prop := mm_Runs L xs d 39 (3, [some (.ref 1), some (.int v1), some (.int v2)], [], M) o
def mp_39_49 (L : Nat) (xs : Nat → Int32) (d : Nat) (M : mm_M) (o : mm_E) : Prop := ∀ z0 z1 z2 : Option Value, mm_Runs L xs d 39 (49, [z0, z1, z2], [], M) o
set_option maxRecDepth 8000 in
set_option maxHeartbeats 4000000 in
theorem ms_39_b3 {L : Nat} {xs : Nat → Int32} {d : Nat} (hd : 0 ≤ d) {v1 : Int32} {v2 : Int32} {M : mm_M} {q : (((Int32) ⊕ (Unit)) ⊕ Nat) × mm_M} {o : mm_E} (h : mf_39_b3 v1 v2 M = some q) (hA : mm_A (mm_K2 (fun s M o => mp_39_3 L xs (d) v1 s M o) (fun r M o => mp_39_49 L xs (d) M o)) q o) : mp_39_3 L xs d v1 v2 M o := by
  unfold mf_39_b3 at h
  show mm_Runs L xs (d) 39 (3, [some (.ref 1), some (.int v1), some (.int v2)], [], M) o
  refine mm_Runs.seq (l := [(3, .iload_n 2, 1)]) (S2 := (4, [some (.ref 1), some (.int v1), some (.int v2)], [.int v2], M)) (by decide +kernel) (hO := mm_own_39) rfl ?_
  refine mm_R_zlt (t := 49) rfl rfl rfl (fun hc => ?_) (fun hc => ?_)
  · replace h := mm_ip hc h
    cases h
    exact (show mp_39_49 L xs (d) M o from hA) (some (.ref 1)) (some (.int v1)) (some (.int v2))
  · replace h := mm_iq hc h
    refine mm_Runs.seq (l := [(7, .aload_n 0, 1), (8, .getfield 15, 3), (11, .sipush 10000, 3)]) (S2 := (14, [some (.ref 1), some (.int v1), some (.int v2)], [.int (10000 : Int32), .int (M.1 1 1)], M)) (by decide +kernel) (hO := mm_own_39) rfl ?_
    refine mm_R_ige (t := 49) rfl rfl rfl (fun hc => ?_) (fun hc => ?_)
    · replace h := mm_ip hc h
      refine mm_Runs.seq (l := [(17, .aload_n 0, 1), (18, .getfield 9, 3), (21, .aload_n 0, 1), (22, .getfield 15, 3), (25, .iload_n 1, 1), (26, .iload_n 2, 1), (27, .iushr, 1), (28, .sipush 255, 3), (31, .iand, 1)]) (S2 := (32, [some (.ref 1), some (.int v1), some (.int v2)], [.int ((mm_ush v1 v2) &&& (255 : Int32)), .int (M.1 1 1), .ref 2], M)) (by decide +kernel) (hO := mm_own_39) rfl ?_
      obtain ⟨hb, h⟩ := mm_gd h
      refine mm_R_iast rfl rfl hb ?_
      refine mm_Runs.seq (l := [(33, .aload_n 0, 1), (34, .dup, 1), (35, .getfield 15, 3), (38, .iconst 1, 1), (39, .iadd, 1), (40, .putfield 15, 3), (43, .iinc 2 (-8), 3), (46, .goto (-43), 3)]) (S2 := (3, [some (.ref 1), some (.int v1), some (.int (v2 + (-8 : Int32)))], [], (mm_pi (mm_pi M 2 (M.1 1 1).toNatClampNeg ((mm_ush v1 v2) &&& (255 : Int32))) 1 1 ((M.1 1 1) + (1 : Int32))))) (by decide +kernel) (hO := mm_own_39) rfl ?_
      cases h
      exact (show mp_39_3 L xs (d) v1 (v2 + (-8 : Int32)) (mm_pi (mm_pi M 2 (M.1 1 1).toNatClampNeg ((mm_ush v1 v2) &&& (255 : Int32))) 1 1 ((M.1 1 1) + (1 : Int32))) o from hA)
    · replace h := mm_iq hc h
      cases h
      exact (show mp_39_49 L xs (d) M o from hA) (some (.ref 1)) (some (.int v1)) (some (.int v2))
theorem ms_39_L3 {L : Nat} {xs : Nat → Int32} {d : Nat} (hd : 0 ≤ d) {v1 : Int32} {v2 : Int32} {β : Type} {K : β → mm_M → mm_E → Prop} {F : (Unit) → mm_M → mm_O β} {M : mm_M} {q : (β ⊕ Nat) × mm_M} {o : mm_E} (h : mm_B (mf_39_L3 v1 v2 M) F = some q) (hA : mm_A K q o) (hx : ∀ (r : (Unit)) (M2 : mm_M), F r M2 = some q → (fun r M o => mp_39_49 L xs (d) M o) r M2 o) : mp_39_3 L xs d v1 v2 M o := by
  unfold mf_39_L3 at h
  exact mm_R_loop (step := (fun s M => mf_39_b3 v1 s M)) (s := v2) (M := M) (P := (fun s M o => mp_39_3 L xs (d) v1 s M o)) (X := (fun r M o => mp_39_49 L xs (d) M o)) h hA (fun s M q hq hA => ms_39_b3 (v1 := v1) (v2 := s) (M := M) (q := q) hd hq hA) hx
set_option maxRecDepth 8000 in
set_option maxHeartbeats 4000000 in
theorem ms_39 {L : Nat} {xs : Nat → Int32} {d : Nat} (hd : 0 ≤ d) {v1 : Int32} {M : mm_M} {q : (Unit ⊕ Nat) × mm_M} {o : mm_E} (h : mf_39 v1 M = some q) (hA : mm_A (mm_Kr mm_wv) q o) : mm_Runs L xs d 39 (0, mm_ent (mm_ml 39) [.ref 1, .int v1], [], M) o := by
  unfold mf_39 at h
  show mm_Runs L xs (d) 39 (0, [some (.ref 1), some (.int v1), none], [], M) o
  refine mm_Runs.seq (l := [(0, .bipush 24, 2), (2, .istore_n 2, 1)]) (S2 := (3, [some (.ref 1), some (.int v1), some (.int (24 : Int32))], [], M)) (by decide +kernel) (hO := mm_own_39) rfl ?_
  have hp : mp_39_3 L xs (d) v1 (24 : Int32) M o := by
    refine ms_39_L3 hd h hA (fun r2 M1 h => ?_)
    intro y3 y4 y5
    show mm_Runs L xs (d) 39 (49, [y3, y4, y5], [], M1) o
    cases h
    exact mm_R_retv rfl rfl hA
  exact hp
-- 13: PlainPacks.feed(IIIII)I (depth 7)
theorem mm_own_13 : mm_own 13 = 0 := rfl
set_option maxRecDepth 8000 in
set_option maxHeartbeats 4000000 in
theorem ms_13 {L : Nat} {xs : Nat → Int32} {d : Nat} (hd : 7 ≤ d) {v1 : Int32} {v2 : Int32} {v3 : Int32} {v4 : Int32} {v5 : Int32} {M : mm_M} {q : (Int32 ⊕ Nat) × mm_M} {o : mm_E} (h : mf_13 v1 v2 v3 v4 v5 M = some q) (hA : mm_A (mm_Kr mm_wi) q o) : mm_Runs L xs d 13 (0, mm_ent (mm_ml 13) [.ref 0, .int v1, .int v2, .int v3, .int v4, .int v5], [], M) o := by
  unfold mf_13 at h
  obtain ⟨d, rfl⟩ := mm_d1 (n := 6) hd
  show mm_Runs L xs (d + 1) 13 (0, [some (.ref 0), some (.int v1), some (.int v2), some (.int v3), some (.int v4), some (.int v5)], [], M) o
  refine mm_Runs.seq (l := [(0, .aload_n 0, 1), (1, .getfield 12, 3), (4, .getfield 90, 3), (7, .bipush 20, 2), (9, .iadd, 1), (10, .sipush 10000, 3)]) (S2 := (13, [some (.ref 0), some (.int v1), some (.int v2), some (.int v3), some (.int v4), some (.int v5)], [.int (10000 : Int32), .int ((M.1 1 1) + (20 : Int32))], M)) (by decide +kernel) (hO := mm_own_13) rfl ?_
  refine mm_R_ile (t := 26) rfl rfl rfl (fun hc => ?_) (fun hc => ?_)
  · replace h := mm_ip hc h
    cases h
    exact mm_R_thr rfl rfl rfl (by omega) hA
  · replace h := mm_iq hc h
    refine mm_Runs.seq (l := [(26, .aload_n 0, 1), (27, .getfield 12, 3), (30, .iload_n 1, 1)]) (S2 := (31, [some (.ref 0), some (.int v1), some (.int v2), some (.int v3), some (.int v4), some (.int v5)], [.int v1, .ref 1], M)) (by decide +kernel) (hO := mm_own_13) rfl ?_
    refine mm_R_call (v := mm_wv) h hA (k2 := 39) (as := [.ref 1, .int v1]) (r := []) rfl (fun _ => rfl) (fun q hq o ho => ms_39 (by omega) hq ho) (fun _ M1 h => ?_)
    show mm_Runs L xs (d + 1) 13 (34, [some (.ref 0), some (.int v1), some (.int v2), some (.int v3), some (.int v4), some (.int v5)], [], M1) o
    refine mm_Runs.seq (l := [(34, .aload_n 0, 1), (35, .getfield 12, 3), (38, .iload_n 2, 1)]) (S2 := (39, [some (.ref 0), some (.int v1), some (.int v2), some (.int v3), some (.int v4), some (.int v5)], [.int v2, .ref 1], M1)) (by decide +kernel) (hO := mm_own_13) rfl ?_
    refine mm_R_call (v := mm_wv) h hA (k2 := 39) (as := [.ref 1, .int v2]) (r := []) rfl (fun _ => rfl) (fun q hq o ho => ms_39 (by omega) hq ho) (fun _ M2 h => ?_)
    show mm_Runs L xs (d + 1) 13 (42, [some (.ref 0), some (.int v1), some (.int v2), some (.int v3), some (.int v4), some (.int v5)], [], M2) o
    refine mm_Runs.seq (l := [(42, .aload_n 0, 1), (43, .getfield 12, 3), (46, .iload_n 3, 1)]) (S2 := (47, [some (.ref 0), some (.int v1), some (.int v2), some (.int v3), some (.int v4), some (.int v5)], [.int v3, .ref 1], M2)) (by decide +kernel) (hO := mm_own_13) rfl ?_
    refine mm_R_call (v := mm_wv) h hA (k2 := 39) (as := [.ref 1, .int v3]) (r := []) rfl (fun _ => rfl) (fun q hq o ho => ms_39 (by omega) hq ho) (fun _ M3 h => ?_)
    show mm_Runs L xs (d + 1) 13 (50, [some (.ref 0), some (.int v1), some (.int v2), some (.int v3), some (.int v4), some (.int v5)], [], M3) o
    refine mm_Runs.seq (l := [(50, .aload_n 0, 1), (51, .getfield 12, 3), (54, .iload 4, 2)]) (S2 := (56, [some (.ref 0), some (.int v1), some (.int v2), some (.int v3), some (.int v4), some (.int v5)], [.int v4, .ref 1], M3)) (by decide +kernel) (hO := mm_own_13) rfl ?_
    refine mm_R_call (v := mm_wv) h hA (k2 := 39) (as := [.ref 1, .int v4]) (r := []) rfl (fun _ => rfl) (fun q hq o ho => ms_39 (by omega) hq ho) (fun _ M4 h => ?_)
    show mm_Runs L xs (d + 1) 13 (59, [some (.ref 0), some (.int v1), some (.int v2), some (.int v3), some (.int v4), some (.int v5)], [], M4) o
    refine mm_Runs.seq (l := [(59, .aload_n 0, 1), (60, .getfield 12, 3), (63, .iload 5, 2)]) (S2 := (65, [some (.ref 0), some (.int v1), some (.int v2), some (.int v3), some (.int v4), some (.int v5)], [.int v5, .ref 1], M4)) (by decide +kernel) (hO := mm_own_13) rfl ?_
    refine mm_R_call (v := mm_wv) h hA (k2 := 39) (as := [.ref 1, .int v5]) (r := []) rfl (fun _ => rfl) (fun q hq o ho => ms_39 (by omega) hq ho) (fun _ M5 h => ?_)
    show mm_Runs L xs (d + 1) 13 (68, [some (.ref 0), some (.int v1), some (.int v2), some (.int v3), some (.int v4), some (.int v5)], [], M5) o
    refine mm_Runs.seq (l := [(68, .aload_n 0, 1), (69, .getfield 12, 3), (72, .getfield 90, 3)]) (S2 := (75, [some (.ref 0), some (.int v1), some (.int v2), some (.int v3), some (.int v4), some (.int v5)], [.int (M5.1 1 1)], M5)) (by decide +kernel) (hO := mm_own_13) rfl ?_
    cases h
    exact mm_R_reti rfl rfl hA
-- 0: PlainPacksLaw.feed(LPlainPacks;IIIII[J)I (depth 8)
theorem mm_own_0 : mm_own 0 = 13 := rfl
set_option maxRecDepth 8000 in
set_option maxHeartbeats 4000000 in
theorem ms_0 {L : Nat} {xs : Nat → Int32} {d : Nat} (hd : 8 ≤ d) {v1 : Int32} {v2 : Int32} {v3 : Int32} {v4 : Int32} {v5 : Int32} {M : mm_M} {q : (Int32 ⊕ Nat) × mm_M} {o : mm_E} (h : mf_0 v1 v2 v3 v4 v5 M = some q) (hA : mm_A (mm_Kr mm_wi) q o) : mm_Runs L xs d 0 (0, mm_ent (mm_ml 0) [.ref 0, .int v1, .int v2, .int v3, .int v4, .int v5, .ref 110], [], M) o := by
  unfold mf_0 at h
  obtain ⟨d, rfl⟩ := mm_d1 (n := 7) hd
  show mm_Runs L xs (d + 1) 0 (0, [some (.ref 0), some (.int v1), some (.int v2), some (.int v3), some (.int v4), some (.int v5), some (.ref 110), none], [], M) o
  refine mm_Runs.seq (l := [(0, .aload 6, 2), (2, .iconst 0, 1), (3, .aload_n 0, 1), (4, .iload_n 1, 1), (5, .iload_n 2, 1), (6, .iload_n 3, 1), (7, .iload 4, 2), (9, .iload 5, 2)]) (S2 := (11, [some (.ref 0), some (.int v1), some (.int v2), some (.int v3), some (.int v4), some (.int v5), some (.ref 110), none], [.int v5, .int v4, .int v3, .int v2, .int v1, .ref 0, .int (0 : Int32), .ref 110], M)) (by decide +kernel) (hO := mm_own_0) rfl ?_
  refine mm_R_callc (v := mm_wi) (X := 3) (hh := 21) (i := 7) h hA (k2 := 13) (as := [.ref 0, .int v1, .int v2, .int v3, .int v4, .int v5]) (r := [.int (0 : Int32), .ref 110]) rfl rfl rfl (fun q hq o ho => ms_13 (by omega) hq ho) (fun r1 M2 h => ?_) (fun M3 h => ?_)
  · show mm_Runs L xs (d + 1) 0 (14, [some (.ref 0), some (.int v1), some (.int v2), some (.int v3), some (.int v4), some (.int v5), some (.ref 110), none], [.int r1, .int (0 : Int32), .ref 110], M2) o
    refine mm_Runs.seq (l := [(14, .i2l, 1)]) (S2 := (15, [some (.ref 0), some (.int v1), some (.int v2), some (.int v3), some (.int v4), some (.int v5), some (.ref 110), none], [.long r1.toInt64, .int (0 : Int32), .ref 110], M2)) (by decide +kernel) (hO := mm_own_0) rfl ?_
    obtain ⟨hb, h⟩ := mm_gd h
    refine mm_R_last rfl rfl hb ?_
    refine mm_Runs.seq (l := [(16, .goto 7, 3), (23, .iconst 0, 1)]) (S2 := (24, [some (.ref 0), some (.int v1), some (.int v2), some (.int v3), some (.int v4), some (.int v5), some (.ref 110), none], [.int (0 : Int32)], (mm_pl M2 110 (0 : Int32).toNatClampNeg r1.toInt64))) (by decide +kernel) (hO := mm_own_0) rfl ?_
    cases h
    exact mm_R_reti rfl rfl hA
  · show mm_Runs L xs (d + 1) 0 (21, [some (.ref 0), some (.int v1), some (.int v2), some (.int v3), some (.int v4), some (.int v5), some (.ref 110), none], [], M3) o
    refine mm_Runs.seq (l := [(21, .iconst 1, 1)]) (S2 := (22, [some (.ref 0), some (.int v1), some (.int v2), some (.int v3), some (.int v4), some (.int v5), some (.ref 110), none], [.int (1 : Int32)], M3)) (by decide +kernel) (hO := mm_own_0) rfl ?_
    cases h
    exact mm_R_reti rfl rfl hA
-- 174: PlainPacksModel.good(Z)Z (depth 0)
theorem mm_own_174 : mm_own 174 = 12 := rfl
set_option maxRecDepth 8000 in
set_option maxHeartbeats 4000000 in
theorem ms_174 {L : Nat} {xs : Nat → Int32} {d : Nat} (hd : 0 ≤ d) {v1 : Int32} {M : mm_M} {q : (Int32 ⊕ Nat) × mm_M} {o : mm_E} (h : mf_174 v1 M = some q) (hA : mm_A (mm_Kr mm_wi) q o) : mm_Runs L xs d 174 (0, mm_ent (mm_ml 174) [.ref 84, .int v1], [], M) o := by
  unfold mf_174 at h
  show mm_Runs L xs (d) 174 (0, [some (.ref 84), some (.int v1)], [], M) o
  refine mm_Runs.seq (l := [(0, .aload_n 0, 1), (1, .iload_n 1, 1)]) (S2 := (2, [some (.ref 84), some (.int v1)], [.int v1, .ref 84], M)) (by decide +kernel) (hO := mm_own_174) rfl ?_
  refine mm_R_zeq (t := 9) rfl rfl rfl (fun hc => ?_) (fun hc => ?_)
  · replace h := mm_ip hc h
    refine mm_Runs.seq (l := [(9, .iconst 1, 1), (10, .putfield 87, 3), (13, .iload_n 1, 1)]) (S2 := (14, [some (.ref 84), some (.int v1)], [.int v1], (mm_pi M 84 0 (1 : Int32)))) (by decide +kernel) (hO := mm_own_174) rfl ?_
    obtain ⟨hb, h⟩ := mm_gd h
    cases h
    exact mm_R_retb rfl rfl hb hA
  · replace h := mm_iq hc h
    refine mm_Runs.seq (l := [(5, .iconst 0, 1), (6, .goto 4, 3), (10, .putfield 87, 3), (13, .iload_n 1, 1)]) (S2 := (14, [some (.ref 84), some (.int v1)], [.int v1], (mm_pi M 84 0 (0 : Int32)))) (by decide +kernel) (hO := mm_own_174) rfl ?_
    obtain ⟨hb, h⟩ := mm_gd h
    cases h
    exact mm_R_retb rfl rfl hb hA
-- 175: PlainPacksModel.feed(IIIII)I (depth 1)
theorem mm_own_175 : mm_own 175 = 12 := rfl
def mp_175_19 (L : Nat) (xs : Nat → Int32) (d : Nat) (v1 : Int32) (v2 : Int32) (v3 : Int32) (v4 : Int32) (v5 : Int32) (s1 : Int32) (M : mm_M) (o : mm_E) : Prop := ∀ z6 z7 : Option Value, mm_Runs L xs d 175 (19, [some (.ref 84), some (.int v1), some (.int v2), some (.int v3), some (.int v4), some (.int v5), z6, z7], [.int s1, .ref 84], M) o
def mp_175_30 (L : Nat) (xs : Nat → Int32) (d : Nat) (v1 : Int32) (v2 : Int32) (v3 : Int32) (v4 : Int32) (v5 : Int32) (v6 : Int32) (M : mm_M) (o : mm_E) : Prop := ∀ z7 : Option Value, mm_Runs L xs d 175 (30, [some (.ref 84), some (.int v1), some (.int v2), some (.int v3), some (.int v4), some (.int v5), some (.int v6), z7], [], M) o
def mp_175_127 (L : Nat) (xs : Nat → Int32) (d : Nat) (M : mm_M) (o : mm_E) : Prop := ∀ z1 z2 z3 z4 z5 z6 z7 : Option Value, mm_Runs L xs d 175 (127, [some (.ref 84), z1, z2, z3, z4, z5, z6, z7], [], M) o
def mp_175_83 (L : Nat) (xs : Nat → Int32) (d : Nat) (v1 : Int32) (v2 : Int32) (v3 : Int32) (v4 : Int32) (v5 : Int32) (v6 : Int32) (s0 : Int32) (M : mm_M) (o : mm_E) : Prop := ∀ z7 : Option Value, mm_Runs L xs d 175 (83, [some (.ref 84), some (.int v1), some (.int v2), some (.int v3), some (.int v4), some (.int v5), some (.int v6), z7], [.int s0], M) o
set_option maxRecDepth 8000 in
set_option maxHeartbeats 4000000 in
theorem ms_175_j83 {L : Nat} {xs : Nat → Int32} {d : Nat} (hd : 1 ≤ d) {v1 : Int32} {v2 : Int32} {v3 : Int32} {v4 : Int32} {v5 : Int32} {v6 : Int32} {s0 : Int32} {M : mm_M} {q : (((Int32) ⊕ (Unit)) ⊕ Nat) × mm_M} {o : mm_E} (h : mf_175_j83 v1 v2 v3 v4 v5 v6 s0 M = some q) (hA : mm_A (mm_K2 (fun s M o => mp_175_30 L xs (d) v1 v2 v3 v4 v5 s M o) (fun r M o => mp_175_127 L xs (d) M o)) q o) : mp_175_83 L xs d v1 v2 v3 v4 v5 v6 s0 M o := by
  unfold mf_175_j83 at h
  obtain ⟨d, rfl⟩ := mm_d1 (n := 0) hd
  intro z7
  show mm_Runs L xs (d + 1) 175 (83, [some (.ref 84), some (.int v1), some (.int v2), some (.int v3), some (.int v4), some (.int v5), some (.int v6), z7], [.int s0], M) o
  refine mm_Runs.seq (l := [(83, .istore 7, 2), (85, .aload_n 0, 1), (86, .getfield 7, 3), (89, .aload_n 0, 1), (90, .getfield 91, 3), (93, .iload 7, 2), (95, .bipush 24, 2), (97, .iload 6, 2), (99, .iconst 4, 1), (100, .irem, 1), (101, .bipush 8, 2), (103, .imul, 1), (104, .isub, 1), (105, .iushr, 1), (106, .sipush 255, 3), (109, .iand, 1)]) (S2 := (110, [some (.ref 84), some (.int v1), some (.int v2), some (.int v3), some (.int v4), some (.int v5), some (.int v6), some (.int s0)], [.int ((mm_ush s0 ((24 : Int32) - ((mm_rem v6 (4 : Int32)) * (8 : Int32)))) &&& (255 : Int32)), .int (M.1 84 2), .ref 85], M)) (by decide +kernel) (hO := mm_own_175) rfl ?_
  obtain ⟨hb, h⟩ := mm_gd h
  refine mm_R_iast rfl rfl hb ?_
  refine mm_Runs.seq (l := [(111, .aload_n 0, 1), (112, .dup, 1), (113, .getfield 91, 3), (116, .iconst 1, 1), (117, .iadd, 1), (118, .putfield 91, 3), (121, .iinc 6 1, 3), (124, .goto (-94), 3)]) (S2 := (30, [some (.ref 84), some (.int v1), some (.int v2), some (.int v3), some (.int v4), some (.int v5), some (.int (v6 + (1 : Int32))), some (.int s0)], [], (mm_pi (mm_pi M 85 (M.1 84 2).toNatClampNeg ((mm_ush s0 ((24 : Int32) - ((mm_rem v6 (4 : Int32)) * (8 : Int32)))) &&& (255 : Int32))) 84 2 ((M.1 84 2) + (1 : Int32))))) (by decide +kernel) (hO := mm_own_175) rfl ?_
  cases h
  exact (show mp_175_30 L xs (d + 1) v1 v2 v3 v4 v5 (v6 + (1 : Int32)) (mm_pi (mm_pi M 85 (M.1 84 2).toNatClampNeg ((mm_ush s0 ((24 : Int32) - ((mm_rem v6 (4 : Int32)) * (8 : Int32)))) &&& (255 : Int32))) 84 2 ((M.1 84 2) + (1 : Int32))) o from hA) (some (.int s0))
set_option maxRecDepth 8000 in
set_option maxHeartbeats 4000000 in
theorem ms_175_b30 {L : Nat} {xs : Nat → Int32} {d : Nat} (hd : 1 ≤ d) {v1 : Int32} {v2 : Int32} {v3 : Int32} {v4 : Int32} {v5 : Int32} {v6 : Int32} {M : mm_M} {q : (((Int32) ⊕ (Unit)) ⊕ Nat) × mm_M} {o : mm_E} (h : mf_175_b30 v1 v2 v3 v4 v5 v6 M = some q) (hA : mm_A (mm_K2 (fun s M o => mp_175_30 L xs (d) v1 v2 v3 v4 v5 s M o) (fun r M o => mp_175_127 L xs (d) M o)) q o) : mp_175_30 L xs d v1 v2 v3 v4 v5 v6 M o := by
  unfold mf_175_b30 at h
  obtain ⟨d, rfl⟩ := mm_d1 (n := 0) hd
  intro z7
  show mm_Runs L xs (d + 1) 175 (30, [some (.ref 84), some (.int v1), some (.int v2), some (.int v3), some (.int v4), some (.int v5), some (.int v6), z7], [], M) o
  refine mm_Runs.seq (l := [(30, .iload 6, 2), (32, .bipush 20, 2)]) (S2 := (34, [some (.ref 84), some (.int v1), some (.int v2), some (.int v3), some (.int v4), some (.int v5), some (.int v6), z7], [.int (20 : Int32), .int v6], M)) (by decide +kernel) (hO := mm_own_175) rfl ?_
  refine mm_R_ige (t := 127) rfl rfl rfl (fun hc => ?_) (fun hc => ?_)
  · replace h := mm_ip hc h
    refine mm_Runs.seq (l := [(37, .iload 6, 2), (39, .iconst 4, 1)]) (S2 := (40, [some (.ref 84), some (.int v1), some (.int v2), some (.int v3), some (.int v4), some (.int v5), some (.int v6), z7], [.int (4 : Int32), .int v6], M)) (by decide +kernel) (hO := mm_own_175) rfl ?_
    refine mm_R_ige (t := 47) rfl rfl rfl (fun hc => ?_) (fun hc => ?_)
    · replace h := mm_ip hc h
      refine mm_Runs.seq (l := [(43, .iload_n 1, 1), (44, .goto 39, 3)]) (S2 := (83, [some (.ref 84), some (.int v1), some (.int v2), some (.int v3), some (.int v4), some (.int v5), some (.int v6), z7], [.int v1], M)) (by decide +kernel) (hO := mm_own_175) rfl ?_
      exact (ms_175_j83 hd h hA : mp_175_83 L xs (d + 1) v1 v2 v3 v4 v5 v6 v1 M o) z7
    · replace h := mm_iq hc h
      refine mm_Runs.seq (l := [(47, .iload 6, 2), (49, .bipush 8, 2)]) (S2 := (51, [some (.ref 84), some (.int v1), some (.int v2), some (.int v3), some (.int v4), some (.int v5), some (.int v6), z7], [.int (8 : Int32), .int v6], M)) (by decide +kernel) (hO := mm_own_175) rfl ?_
      refine mm_R_ige (t := 58) rfl rfl rfl (fun hc => ?_) (fun hc => ?_)
      · replace h := mm_ip hc h
        refine mm_Runs.seq (l := [(54, .iload_n 2, 1), (55, .goto 28, 3)]) (S2 := (83, [some (.ref 84), some (.int v1), some (.int v2), some (.int v3), some (.int v4), some (.int v5), some (.int v6), z7], [.int v2], M)) (by decide +kernel) (hO := mm_own_175) rfl ?_
        exact (ms_175_j83 hd h hA : mp_175_83 L xs (d + 1) v1 v2 v3 v4 v5 v6 v2 M o) z7
      · replace h := mm_iq hc h
        refine mm_Runs.seq (l := [(58, .iload 6, 2), (60, .bipush 12, 2)]) (S2 := (62, [some (.ref 84), some (.int v1), some (.int v2), some (.int v3), some (.int v4), some (.int v5), some (.int v6), z7], [.int (12 : Int32), .int v6], M)) (by decide +kernel) (hO := mm_own_175) rfl ?_
        refine mm_R_ige (t := 69) rfl rfl rfl (fun hc => ?_) (fun hc => ?_)
        · replace h := mm_ip hc h
          refine mm_Runs.seq (l := [(65, .iload_n 3, 1), (66, .goto 17, 3)]) (S2 := (83, [some (.ref 84), some (.int v1), some (.int v2), some (.int v3), some (.int v4), some (.int v5), some (.int v6), z7], [.int v3], M)) (by decide +kernel) (hO := mm_own_175) rfl ?_
          exact (ms_175_j83 hd h hA : mp_175_83 L xs (d + 1) v1 v2 v3 v4 v5 v6 v3 M o) z7
        · replace h := mm_iq hc h
          refine mm_Runs.seq (l := [(69, .iload 6, 2), (71, .bipush 16, 2)]) (S2 := (73, [some (.ref 84), some (.int v1), some (.int v2), some (.int v3), some (.int v4), some (.int v5), some (.int v6), z7], [.int (16 : Int32), .int v6], M)) (by decide +kernel) (hO := mm_own_175) rfl ?_
          refine mm_R_ige (t := 81) rfl rfl rfl (fun hc => ?_) (fun hc => ?_)
          · replace h := mm_ip hc h
            refine mm_Runs.seq (l := [(76, .iload 4, 2), (78, .goto 5, 3)]) (S2 := (83, [some (.ref 84), some (.int v1), some (.int v2), some (.int v3), some (.int v4), some (.int v5), some (.int v6), z7], [.int v4], M)) (by decide +kernel) (hO := mm_own_175) rfl ?_
            exact (ms_175_j83 hd h hA : mp_175_83 L xs (d + 1) v1 v2 v3 v4 v5 v6 v4 M o) z7
          · replace h := mm_iq hc h
            refine mm_Runs.seq (l := [(81, .iload 5, 2)]) (S2 := (83, [some (.ref 84), some (.int v1), some (.int v2), some (.int v3), some (.int v4), some (.int v5), some (.int v6), z7], [.int v5], M)) (by decide +kernel) (hO := mm_own_175) rfl ?_
            exact (ms_175_j83 hd h hA : mp_175_83 L xs (d + 1) v1 v2 v3 v4 v5 v6 v5 M o) z7
  · replace h := mm_iq hc h
    cases h
    exact (show mp_175_127 L xs (d + 1) M o from hA) (some (.int v1)) (some (.int v2)) (some (.int v3)) (some (.int v4)) (some (.int v5)) (some (.int v6)) z7
theorem ms_175_L30 {L : Nat} {xs : Nat → Int32} {d : Nat} (hd : 1 ≤ d) {v1 : Int32} {v2 : Int32} {v3 : Int32} {v4 : Int32} {v5 : Int32} {v6 : Int32} {β : Type} {K : β → mm_M → mm_E → Prop} {F : (Unit) → mm_M → mm_O β} {M : mm_M} {q : (β ⊕ Nat) × mm_M} {o : mm_E} (h : mm_B (mf_175_L30 v1 v2 v3 v4 v5 v6 M) F = some q) (hA : mm_A K q o) (hx : ∀ (r : (Unit)) (M2 : mm_M), F r M2 = some q → (fun r M o => mp_175_127 L xs (d) M o) r M2 o) : mp_175_30 L xs d v1 v2 v3 v4 v5 v6 M o := by
  unfold mf_175_L30 at h
  exact mm_R_loop (step := (fun s M => mf_175_b30 v1 v2 v3 v4 v5 s M)) (s := v6) (M := M) (P := (fun s M o => mp_175_30 L xs (d) v1 v2 v3 v4 v5 s M o)) (X := (fun r M o => mp_175_127 L xs (d) M o)) h hA (fun s M q hq hA => ms_175_b30 (v1 := v1) (v2 := v2) (v3 := v3) (v4 := v4) (v5 := v5) (v6 := s) (M := M) (q := q) hd hq hA) hx
set_option maxRecDepth 8000 in
set_option maxHeartbeats 4000000 in
theorem ms_175_j19 {L : Nat} {xs : Nat → Int32} {d : Nat} (hd : 1 ≤ d) {v1 : Int32} {v2 : Int32} {v3 : Int32} {v4 : Int32} {v5 : Int32} {s1 : Int32} {M : mm_M} {q : (Int32 ⊕ Nat) × mm_M} {o : mm_E} (h : mf_175_j19 v1 v2 v3 v4 v5 s1 M = some q) (hA : mm_A (mm_Kr mm_wi) q o) : mp_175_19 L xs d v1 v2 v3 v4 v5 s1 M o := by
  unfold mf_175_j19 at h
  obtain ⟨d, rfl⟩ := mm_d1 (n := 0) hd
  intro z6 z7
  show mm_Runs L xs (d + 1) 175 (19, [some (.ref 84), some (.int v1), some (.int v2), some (.int v3), some (.int v4), some (.int v5), z6, z7], [.int s1, .ref 84], M) o
  refine mm_R_call (v := mm_wi) h hA (k2 := 174) (as := [.ref 84, .int s1]) (r := []) rfl (fun _ => rfl) (fun q hq o ho => ms_174 (by omega) hq ho) (fun r1 M2 h => ?_)
  show mm_Runs L xs (d + 1) 175 (22, [some (.ref 84), some (.int v1), some (.int v2), some (.int v3), some (.int v4), some (.int v5), z6, z7], [.int r1], M2) o
  refine mm_R_zne (t := 27) rfl rfl rfl (fun hc => ?_) (fun hc => ?_)
  · replace h := mm_ip hc h
    refine mm_Runs.seq (l := [(25, .iconst 0, 1)]) (S2 := (26, [some (.ref 84), some (.int v1), some (.int v2), some (.int v3), some (.int v4), some (.int v5), z6, z7], [.int (0 : Int32)], M2)) (by decide +kernel) (hO := mm_own_175) rfl ?_
    cases h
    exact mm_R_reti rfl rfl hA
  · replace h := mm_iq hc h
    refine mm_Runs.seq (l := [(27, .iconst 0, 1), (28, .istore 6, 2)]) (S2 := (30, [some (.ref 84), some (.int v1), some (.int v2), some (.int v3), some (.int v4), some (.int v5), some (.int (0 : Int32)), z7], [], M2)) (by decide +kernel) (hO := mm_own_175) rfl ?_
    have hp : mp_175_30 L xs (d + 1) v1 v2 v3 v4 v5 (0 : Int32) M2 o := by
      refine ms_175_L30 hd h hA (fun r4 M3 h => ?_)
      intro y5 y6 y7 y8 y9 y10 y11
      show mm_Runs L xs (d + 1) 175 (127, [some (.ref 84), y5, y6, y7, y8, y9, y10, y11], [], M3) o
      refine mm_Runs.seq (l := [(127, .aload_n 0, 1), (128, .getfield 91, 3)]) (S2 := (131, [some (.ref 84), y5, y6, y7, y8, y9, y10, y11], [.int (M3.1 84 2)], M3)) (by decide +kernel) (hO := mm_own_175) rfl ?_
      cases h
      exact mm_R_reti rfl rfl hA
    exact hp z7
set_option maxRecDepth 8000 in
set_option maxHeartbeats 4000000 in
theorem ms_175 {L : Nat} {xs : Nat → Int32} {d : Nat} (hd : 1 ≤ d) {v1 : Int32} {v2 : Int32} {v3 : Int32} {v4 : Int32} {v5 : Int32} {M : mm_M} {q : (Int32 ⊕ Nat) × mm_M} {o : mm_E} (h : mf_175 v1 v2 v3 v4 v5 M = some q) (hA : mm_A (mm_Kr mm_wi) q o) : mm_Runs L xs d 175 (0, mm_ent (mm_ml 175) [.ref 84, .int v1, .int v2, .int v3, .int v4, .int v5], [], M) o := by
  unfold mf_175 at h
  obtain ⟨d, rfl⟩ := mm_d1 (n := 0) hd
  show mm_Runs L xs (d + 1) 175 (0, [some (.ref 84), some (.int v1), some (.int v2), some (.int v3), some (.int v4), some (.int v5), none, none], [], M) o
  refine mm_Runs.seq (l := [(0, .aload_n 0, 1), (1, .aload_n 0, 1), (2, .getfield 91, 3), (5, .bipush 20, 2), (7, .iadd, 1), (8, .sipush 10000, 3)]) (S2 := (11, [some (.ref 84), some (.int v1), some (.int v2), some (.int v3), some (.int v4), some (.int v5), none, none], [.int (10000 : Int32), .int ((M.1 84 2) + (20 : Int32)), .ref 84], M)) (by decide +kernel) (hO := mm_own_175) rfl ?_
  refine mm_R_igt (t := 18) rfl rfl rfl (fun hc => ?_) (fun hc => ?_)
  · replace h := mm_ip hc h
    refine mm_Runs.seq (l := [(18, .iconst 0, 1)]) (S2 := (19, [some (.ref 84), some (.int v1), some (.int v2), some (.int v3), some (.int v4), some (.int v5), none, none], [.int (0 : Int32), .ref 84], M)) (by decide +kernel) (hO := mm_own_175) rfl ?_
    exact (ms_175_j19 hd h hA : mp_175_19 L xs (d + 1) v1 v2 v3 v4 v5 (0 : Int32) M o) none none
  · replace h := mm_iq hc h
    refine mm_Runs.seq (l := [(14, .iconst 1, 1), (15, .goto 4, 3)]) (S2 := (19, [some (.ref 84), some (.int v1), some (.int v2), some (.int v3), some (.int v4), some (.int v5), none, none], [.int (1 : Int32), .ref 84], M)) (by decide +kernel) (hO := mm_own_175) rfl ?_
    exact (ms_175_j19 hd h hA : mp_175_19 L xs (d + 1) v1 v2 v3 v4 v5 (1 : Int32) M o) none none
-- 173: PlainPacksModel.thrown()I (depth 0)
theorem mm_own_173 : mm_own 173 = 12 := rfl
set_option maxRecDepth 8000 in
set_option maxHeartbeats 4000000 in
theorem ms_173 {L : Nat} {xs : Nat → Int32} {d : Nat} (hd : 0 ≤ d) {M : mm_M} {q : (Int32 ⊕ Nat) × mm_M} {o : mm_E} (h : mf_173 M = some q) (hA : mm_A (mm_Kr mm_wi) q o) : mm_Runs L xs d 173 (0, mm_ent (mm_ml 173) [.ref 84], [], M) o := by
  unfold mf_173 at h
  show mm_Runs L xs (d) 173 (0, [some (.ref 84)], [], M) o
  refine mm_Runs.seq (l := [(0, .aload_n 0, 1), (1, .getfield 87, 3)]) (S2 := (4, [some (.ref 84)], [.int (M.1 84 0)], M)) (by decide +kernel) (hO := mm_own_173) rfl ?_
  cases h
  exact mm_R_reti rfl rfl hA
-- 14: PlainPacks.end(I)V (depth 7)
theorem mm_own_14 : mm_own 14 = 0 := rfl
set_option maxRecDepth 8000 in
set_option maxHeartbeats 4000000 in
theorem ms_14 {L : Nat} {xs : Nat → Int32} {d : Nat} (hd : 7 ≤ d) {v1 : Int32} {M : mm_M} {q : (Unit ⊕ Nat) × mm_M} {o : mm_E} (h : mf_14 v1 M = some q) (hA : mm_A (mm_Kr mm_wv) q o) : mm_Runs L xs d 14 (0, mm_ent (mm_ml 14) [.ref 0, .int v1], [], M) o := by
  unfold mf_14 at h
  show mm_Runs L xs (d) 14 (0, [some (.ref 0), some (.int v1)], [], M) o
  refine mm_Runs.seq (l := [(0, .iload_n 1, 1)]) (S2 := (1, [some (.ref 0), some (.int v1)], [.int v1], M)) (by decide +kernel) (hO := mm_own_14) rfl ?_
  refine mm_R_zlt (t := 15) rfl rfl rfl (fun hc => ?_) (fun hc => ?_)
  · replace h := mm_ip hc h
    cases h
    exact mm_R_thr rfl rfl rfl (by omega) hA
  · replace h := mm_iq hc h
    refine mm_Runs.seq (l := [(4, .iload_n 1, 1), (5, .aload_n 0, 1), (6, .getfield 12, 3), (9, .getfield 90, 3)]) (S2 := (12, [some (.ref 0), some (.int v1)], [.int (M.1 1 1), .int v1], M)) (by decide +kernel) (hO := mm_own_14) rfl ?_
    refine mm_R_ile (t := 25) rfl rfl rfl (fun hc => ?_) (fun hc => ?_)
    · replace h := mm_ip hc h
      cases h
      exact mm_R_thr rfl rfl rfl (by omega) hA
    · replace h := mm_iq hc h
      refine mm_Runs.seq (l := [(25, .aload_n 0, 1), (26, .getfield 12, 3), (29, .iload_n 1, 1), (30, .putfield 90, 3)]) (S2 := (33, [some (.ref 0), some (.int v1)], [], (mm_pi M 1 1 v1))) (by decide +kernel) (hO := mm_own_14) rfl ?_
      cases h
      exact mm_R_retv rfl rfl hA
-- 1: PlainPacksLaw.end(LPlainPacks;I)I (depth 8)
theorem mm_own_1 : mm_own 1 = 13 := rfl
set_option maxRecDepth 8000 in
set_option maxHeartbeats 4000000 in
theorem ms_1 {L : Nat} {xs : Nat → Int32} {d : Nat} (hd : 8 ≤ d) {v1 : Int32} {M : mm_M} {q : (Int32 ⊕ Nat) × mm_M} {o : mm_E} (h : mf_1 v1 M = some q) (hA : mm_A (mm_Kr mm_wi) q o) : mm_Runs L xs d 1 (0, mm_ent (mm_ml 1) [.ref 0, .int v1], [], M) o := by
  unfold mf_1 at h
  obtain ⟨d, rfl⟩ := mm_d1 (n := 7) hd
  show mm_Runs L xs (d + 1) 1 (0, [some (.ref 0), some (.int v1), none], [], M) o
  refine mm_Runs.seq (l := [(0, .aload_n 0, 1), (1, .iload_n 1, 1)]) (S2 := (2, [some (.ref 0), some (.int v1), none], [.int v1, .ref 0], M)) (by decide +kernel) (hO := mm_own_1) rfl ?_
  refine mm_R_callc (v := mm_wv) (X := 1) (hh := 9) (i := 2) h hA (k2 := 14) (as := [.ref 0, .int v1]) (r := []) rfl rfl rfl (fun q hq o ho => ms_14 (by omega) hq ho) (fun _ M1 h => ?_) (fun M2 h => ?_)
  · show mm_Runs L xs (d + 1) 1 (5, [some (.ref 0), some (.int v1), none], [], M1) o
    refine mm_Runs.seq (l := [(5, .goto 6, 3), (11, .iconst 0, 1)]) (S2 := (12, [some (.ref 0), some (.int v1), none], [.int (0 : Int32)], M1)) (by decide +kernel) (hO := mm_own_1) rfl ?_
    cases h
    exact mm_R_reti rfl rfl hA
  · show mm_Runs L xs (d + 1) 1 (9, [some (.ref 0), some (.int v1), none], [], M2) o
    refine mm_Runs.seq (l := [(9, .iconst 1, 1)]) (S2 := (10, [some (.ref 0), some (.int v1), none], [.int (1 : Int32)], M2)) (by decide +kernel) (hO := mm_own_1) rfl ?_
    cases h
    exact mm_R_reti rfl rfl hA
-- 176: PlainPacksModel.end(I)V (depth 1)
theorem mm_own_176 : mm_own 176 = 12 := rfl
def mp_176_17 (L : Nat) (xs : Nat → Int32) (d : Nat) (v1 : Int32) (M : mm_M) (o : mm_E) : Prop := mm_Runs L xs d 176 (17, [some (.ref 84), some (.int v1)], [.ref 84], M) o
def mp_176_18 (L : Nat) (xs : Nat → Int32) (d : Nat) (v1 : Int32) (s1 : Int32) (M : mm_M) (o : mm_E) : Prop := mm_Runs L xs d 176 (18, [some (.ref 84), some (.int v1)], [.int s1, .ref 84], M) o
set_option maxRecDepth 8000 in
set_option maxHeartbeats 4000000 in
theorem ms_176_j18 {L : Nat} {xs : Nat → Int32} {d : Nat} (hd : 1 ≤ d) {v1 : Int32} {s1 : Int32} {M : mm_M} {q : (Unit ⊕ Nat) × mm_M} {o : mm_E} (h : mf_176_j18 v1 s1 M = some q) (hA : mm_A (mm_Kr mm_wv) q o) : mp_176_18 L xs d v1 s1 M o := by
  unfold mf_176_j18 at h
  obtain ⟨d, rfl⟩ := mm_d1 (n := 0) hd
  show mm_Runs L xs (d + 1) 176 (18, [some (.ref 84), some (.int v1)], [.int s1, .ref 84], M) o
  refine mm_R_call (v := mm_wi) h hA (k2 := 174) (as := [.ref 84, .int s1]) (r := []) rfl (fun _ => rfl) (fun q hq o ho => ms_174 (by omega) hq ho) (fun r1 M2 h => ?_)
  show mm_Runs L xs (d + 1) 176 (21, [some (.ref 84), some (.int v1)], [.int r1], M2) o
  refine mm_R_zeq (t := 29) rfl rfl rfl (fun hc => ?_) (fun hc => ?_)
  · replace h := mm_ip hc h
    cases h
    exact mm_R_retv rfl rfl hA
  · replace h := mm_iq hc h
    refine mm_Runs.seq (l := [(24, .aload_n 0, 1), (25, .iload_n 1, 1), (26, .putfield 91, 3)]) (S2 := (29, [some (.ref 84), some (.int v1)], [], (mm_pi M2 84 2 v1))) (by decide +kernel) (hO := mm_own_176) rfl ?_
    cases h
    exact mm_R_retv rfl rfl hA
set_option maxRecDepth 8000 in
set_option maxHeartbeats 4000000 in
theorem ms_176_j17 {L : Nat} {xs : Nat → Int32} {d : Nat} (hd : 1 ≤ d) {v1 : Int32} {M : mm_M} {q : (Unit ⊕ Nat) × mm_M} {o : mm_E} (h : mf_176_j17 v1 M = some q) (hA : mm_A (mm_Kr mm_wv) q o) : mp_176_17 L xs d v1 M o := by
  unfold mf_176_j17 at h
  obtain ⟨d, rfl⟩ := mm_d1 (n := 0) hd
  show mm_Runs L xs (d + 1) 176 (17, [some (.ref 84), some (.int v1)], [.ref 84], M) o
  refine mm_Runs.seq (l := [(17, .iconst 0, 1)]) (S2 := (18, [some (.ref 84), some (.int v1)], [.int (0 : Int32), .ref 84], M)) (by decide +kernel) (hO := mm_own_176) rfl ?_
  exact (ms_176_j18 hd h hA : mp_176_18 L xs (d + 1) v1 (0 : Int32) M o)
set_option maxRecDepth 8000 in
set_option maxHeartbeats 4000000 in
theorem ms_176 {L : Nat} {xs : Nat → Int32} {d : Nat} (hd : 1 ≤ d) {v1 : Int32} {M : mm_M} {q : (Unit ⊕ Nat) × mm_M} {o : mm_E} (h : mf_176 v1 M = some q) (hA : mm_A (mm_Kr mm_wv) q o) : mm_Runs L xs d 176 (0, mm_ent (mm_ml 176) [.ref 84, .int v1], [], M) o := by
  unfold mf_176 at h
  obtain ⟨d, rfl⟩ := mm_d1 (n := 0) hd
  show mm_Runs L xs (d + 1) 176 (0, [some (.ref 84), some (.int v1)], [], M) o
  refine mm_Runs.seq (l := [(0, .aload_n 0, 1), (1, .iload_n 1, 1)]) (S2 := (2, [some (.ref 84), some (.int v1)], [.int v1, .ref 84], M)) (by decide +kernel) (hO := mm_own_176) rfl ?_
  refine mm_R_zlt (t := 17) rfl rfl rfl (fun hc => ?_) (fun hc => ?_)
  · replace h := mm_ip hc h
    exact (ms_176_j17 hd h hA : mp_176_17 L xs (d + 1) v1 M o)
  · replace h := mm_iq hc h
    refine mm_Runs.seq (l := [(5, .iload_n 1, 1), (6, .aload_n 0, 1), (7, .getfield 91, 3)]) (S2 := (10, [some (.ref 84), some (.int v1)], [.int (M.1 84 2), .int v1, .ref 84], M)) (by decide +kernel) (hO := mm_own_176) rfl ?_
    refine mm_R_igt (t := 17) rfl rfl rfl (fun hc => ?_) (fun hc => ?_)
    · replace h := mm_ip hc h
      exact (ms_176_j17 hd h hA : mp_176_17 L xs (d + 1) v1 M o)
    · replace h := mm_iq hc h
      refine mm_Runs.seq (l := [(13, .iconst 1, 1), (14, .goto 4, 3)]) (S2 := (18, [some (.ref 84), some (.int v1)], [.int (1 : Int32), .ref 84], M)) (by decide +kernel) (hO := mm_own_176) rfl ?_
      exact (ms_176_j18 hd h hA : mp_176_18 L xs (d + 1) v1 (1 : Int32) M o)
-- 15: PlainPacks.alter(II)I (depth 7)
theorem mm_own_15 : mm_own 15 = 0 := rfl
set_option maxRecDepth 8000 in
set_option maxHeartbeats 4000000 in
theorem ms_15 {L : Nat} {xs : Nat → Int32} {d : Nat} (hd : 7 ≤ d) {v1 : Int32} {v2 : Int32} {M : mm_M} {q : (Int32 ⊕ Nat) × mm_M} {o : mm_E} (h : mf_15 v1 v2 M = some q) (hA : mm_A (mm_Kr mm_wi) q o) : mm_Runs L xs d 15 (0, mm_ent (mm_ml 15) [.ref 0, .int v1, .int v2], [], M) o := by
  unfold mf_15 at h
  show mm_Runs L xs (d) 15 (0, [some (.ref 0), some (.int v1), some (.int v2), none], [], M) o
  refine mm_Runs.seq (l := [(0, .iload_n 1, 1)]) (S2 := (1, [some (.ref 0), some (.int v1), some (.int v2), none], [.int v1], M)) (by decide +kernel) (hO := mm_own_15) rfl ?_
  refine mm_R_zlt (t := 15) rfl rfl rfl (fun hc => ?_) (fun hc => ?_)
  · replace h := mm_ip hc h
    cases h
    exact mm_R_thr rfl rfl rfl (by omega) hA
  · replace h := mm_iq hc h
    refine mm_Runs.seq (l := [(4, .iload_n 1, 1), (5, .aload_n 0, 1), (6, .getfield 12, 3), (9, .getfield 90, 3)]) (S2 := (12, [some (.ref 0), some (.int v1), some (.int v2), none], [.int (M.1 1 1), .int v1], M)) (by decide +kernel) (hO := mm_own_15) rfl ?_
    refine mm_R_ilt (t := 25) rfl rfl rfl (fun hc => ?_) (fun hc => ?_)
    · replace h := mm_ip hc h
      refine mm_Runs.seq (l := [(25, .aload_n 0, 1), (26, .getfield 12, 3), (29, .getfield 115, 3), (32, .iload_n 1, 1)]) (S2 := (33, [some (.ref 0), some (.int v1), some (.int v2), none], [.int v1, .ref 2], M)) (by decide +kernel) (hO := mm_own_15) rfl ?_
      obtain ⟨hb, h⟩ := mm_gd h
      refine mm_R_iald rfl rfl hb ?_
      refine mm_Runs.seq (l := [(34, .istore_n 3, 1), (35, .aload_n 0, 1), (36, .getfield 12, 3), (39, .getfield 115, 3), (42, .iload_n 1, 1), (43, .iload_n 3, 1), (44, .iload_n 2, 1), (45, .sipush 255, 3), (48, .iand, 1), (49, .ixor, 1)]) (S2 := (50, [some (.ref 0), some (.int v1), some (.int v2), some (.int (M.1 2 v1.toNatClampNeg))], [.int ((M.1 2 v1.toNatClampNeg) ^^^ (v2 &&& (255 : Int32))), .int v1, .ref 2], M)) (by decide +kernel) (hO := mm_own_15) rfl ?_
      obtain ⟨hb, h⟩ := mm_gd h
      refine mm_R_iast rfl rfl hb ?_
      refine mm_Runs.seq (l := [(51, .iload_n 3, 1)]) (S2 := (52, [some (.ref 0), some (.int v1), some (.int v2), some (.int (M.1 2 v1.toNatClampNeg))], [.int (M.1 2 v1.toNatClampNeg)], (mm_pi M 2 v1.toNatClampNeg ((M.1 2 v1.toNatClampNeg) ^^^ (v2 &&& (255 : Int32)))))) (by decide +kernel) (hO := mm_own_15) rfl ?_
      cases h
      exact mm_R_reti rfl rfl hA
    · replace h := mm_iq hc h
      cases h
      exact mm_R_thr rfl rfl rfl (by omega) hA
-- 2: PlainPacksLaw.alter(LPlainPacks;II[J)I (depth 8)
theorem mm_own_2 : mm_own 2 = 13 := rfl
set_option maxRecDepth 8000 in
set_option maxHeartbeats 4000000 in
theorem ms_2 {L : Nat} {xs : Nat → Int32} {d : Nat} (hd : 8 ≤ d) {v1 : Int32} {v2 : Int32} {M : mm_M} {q : (Int32 ⊕ Nat) × mm_M} {o : mm_E} (h : mf_2 v1 v2 M = some q) (hA : mm_A (mm_Kr mm_wi) q o) : mm_Runs L xs d 2 (0, mm_ent (mm_ml 2) [.ref 0, .int v1, .int v2, .ref 110], [], M) o := by
  unfold mf_2 at h
  obtain ⟨d, rfl⟩ := mm_d1 (n := 7) hd
  show mm_Runs L xs (d + 1) 2 (0, [some (.ref 0), some (.int v1), some (.int v2), some (.ref 110), none], [], M) o
  refine mm_Runs.seq (l := [(0, .aload_n 3, 1), (1, .iconst 0, 1), (2, .aload_n 0, 1), (3, .iload_n 1, 1), (4, .iload_n 2, 1)]) (S2 := (5, [some (.ref 0), some (.int v1), some (.int v2), some (.ref 110), none], [.int v2, .int v1, .ref 0, .int (0 : Int32), .ref 110], M)) (by decide +kernel) (hO := mm_own_2) rfl ?_
  refine mm_R_callc (v := mm_wi) (X := 2) (hh := 15) (i := 4) h hA (k2 := 15) (as := [.ref 0, .int v1, .int v2]) (r := [.int (0 : Int32), .ref 110]) rfl rfl rfl (fun q hq o ho => ms_15 (by omega) hq ho) (fun r1 M2 h => ?_) (fun M3 h => ?_)
  · show mm_Runs L xs (d + 1) 2 (8, [some (.ref 0), some (.int v1), some (.int v2), some (.ref 110), none], [.int r1, .int (0 : Int32), .ref 110], M2) o
    refine mm_Runs.seq (l := [(8, .i2l, 1)]) (S2 := (9, [some (.ref 0), some (.int v1), some (.int v2), some (.ref 110), none], [.long r1.toInt64, .int (0 : Int32), .ref 110], M2)) (by decide +kernel) (hO := mm_own_2) rfl ?_
    obtain ⟨hb, h⟩ := mm_gd h
    refine mm_R_last rfl rfl hb ?_
    refine mm_Runs.seq (l := [(10, .goto 7, 3), (17, .iconst 0, 1)]) (S2 := (18, [some (.ref 0), some (.int v1), some (.int v2), some (.ref 110), none], [.int (0 : Int32)], (mm_pl M2 110 (0 : Int32).toNatClampNeg r1.toInt64))) (by decide +kernel) (hO := mm_own_2) rfl ?_
    cases h
    exact mm_R_reti rfl rfl hA
  · show mm_Runs L xs (d + 1) 2 (15, [some (.ref 0), some (.int v1), some (.int v2), some (.ref 110), none], [], M3) o
    refine mm_Runs.seq (l := [(15, .iconst 1, 1)]) (S2 := (16, [some (.ref 0), some (.int v1), some (.int v2), some (.ref 110), none], [.int (1 : Int32)], M3)) (by decide +kernel) (hO := mm_own_2) rfl ?_
    cases h
    exact mm_R_reti rfl rfl hA
-- 177: PlainPacksModel.alter(II)I (depth 1)
theorem mm_own_177 : mm_own 177 = 12 := rfl
def mp_177_17 (L : Nat) (xs : Nat → Int32) (d : Nat) (v1 : Int32) (v2 : Int32) (M : mm_M) (o : mm_E) : Prop := ∀ z3 : Option Value, mm_Runs L xs d 177 (17, [some (.ref 84), some (.int v1), some (.int v2), z3], [.ref 84], M) o
def mp_177_18 (L : Nat) (xs : Nat → Int32) (d : Nat) (v1 : Int32) (v2 : Int32) (s1 : Int32) (M : mm_M) (o : mm_E) : Prop := ∀ z3 : Option Value, mm_Runs L xs d 177 (18, [some (.ref 84), some (.int v1), some (.int v2), z3], [.int s1, .ref 84], M) o
set_option maxRecDepth 8000 in
set_option maxHeartbeats 4000000 in
theorem ms_177_j18 {L : Nat} {xs : Nat → Int32} {d : Nat} (hd : 1 ≤ d) {v1 : Int32} {v2 : Int32} {s1 : Int32} {M : mm_M} {q : (Int32 ⊕ Nat) × mm_M} {o : mm_E} (h : mf_177_j18 v1 v2 s1 M = some q) (hA : mm_A (mm_Kr mm_wi) q o) : mp_177_18 L xs d v1 v2 s1 M o := by
  unfold mf_177_j18 at h
  obtain ⟨d, rfl⟩ := mm_d1 (n := 0) hd
  intro z3
  show mm_Runs L xs (d + 1) 177 (18, [some (.ref 84), some (.int v1), some (.int v2), z3], [.int s1, .ref 84], M) o
  refine mm_R_call (v := mm_wi) h hA (k2 := 174) (as := [.ref 84, .int s1]) (r := []) rfl (fun _ => rfl) (fun q hq o ho => ms_174 (by omega) hq ho) (fun r1 M2 h => ?_)
  show mm_Runs L xs (d + 1) 177 (21, [some (.ref 84), some (.int v1), some (.int v2), z3], [.int r1], M2) o
  refine mm_R_zne (t := 26) rfl rfl rfl (fun hc => ?_) (fun hc => ?_)
  · replace h := mm_ip hc h
    refine mm_Runs.seq (l := [(24, .iconst 0, 1)]) (S2 := (25, [some (.ref 84), some (.int v1), some (.int v2), z3], [.int (0 : Int32)], M2)) (by decide +kernel) (hO := mm_own_177) rfl ?_
    cases h
    exact mm_R_reti rfl rfl hA
  · replace h := mm_iq hc h
    refine mm_Runs.seq (l := [(26, .aload_n 0, 1), (27, .getfield 7, 3), (30, .iload_n 1, 1)]) (S2 := (31, [some (.ref 84), some (.int v1), some (.int v2), z3], [.int v1, .ref 85], M2)) (by decide +kernel) (hO := mm_own_177) rfl ?_
    obtain ⟨hb, h⟩ := mm_gd h
    refine mm_R_iald rfl rfl hb ?_
    refine mm_Runs.seq (l := [(32, .istore_n 3, 1), (33, .aload_n 0, 1), (34, .getfield 7, 3), (37, .iload_n 1, 1), (38, .iload_n 3, 1), (39, .iload_n 2, 1), (40, .sipush 255, 3), (43, .iand, 1), (44, .ixor, 1)]) (S2 := (45, [some (.ref 84), some (.int v1), some (.int v2), some (.int (M2.1 85 v1.toNatClampNeg))], [.int ((M2.1 85 v1.toNatClampNeg) ^^^ (v2 &&& (255 : Int32))), .int v1, .ref 85], M2)) (by decide +kernel) (hO := mm_own_177) rfl ?_
    obtain ⟨hb, h⟩ := mm_gd h
    refine mm_R_iast rfl rfl hb ?_
    refine mm_Runs.seq (l := [(46, .iload_n 3, 1)]) (S2 := (47, [some (.ref 84), some (.int v1), some (.int v2), some (.int (M2.1 85 v1.toNatClampNeg))], [.int (M2.1 85 v1.toNatClampNeg)], (mm_pi M2 85 v1.toNatClampNeg ((M2.1 85 v1.toNatClampNeg) ^^^ (v2 &&& (255 : Int32)))))) (by decide +kernel) (hO := mm_own_177) rfl ?_
    cases h
    exact mm_R_reti rfl rfl hA
set_option maxRecDepth 8000 in
set_option maxHeartbeats 4000000 in
theorem ms_177_j17 {L : Nat} {xs : Nat → Int32} {d : Nat} (hd : 1 ≤ d) {v1 : Int32} {v2 : Int32} {M : mm_M} {q : (Int32 ⊕ Nat) × mm_M} {o : mm_E} (h : mf_177_j17 v1 v2 M = some q) (hA : mm_A (mm_Kr mm_wi) q o) : mp_177_17 L xs d v1 v2 M o := by
  unfold mf_177_j17 at h
  obtain ⟨d, rfl⟩ := mm_d1 (n := 0) hd
  intro z3
  show mm_Runs L xs (d + 1) 177 (17, [some (.ref 84), some (.int v1), some (.int v2), z3], [.ref 84], M) o
  refine mm_Runs.seq (l := [(17, .iconst 0, 1)]) (S2 := (18, [some (.ref 84), some (.int v1), some (.int v2), z3], [.int (0 : Int32), .ref 84], M)) (by decide +kernel) (hO := mm_own_177) rfl ?_
  exact (ms_177_j18 hd h hA : mp_177_18 L xs (d + 1) v1 v2 (0 : Int32) M o) z3
set_option maxRecDepth 8000 in
set_option maxHeartbeats 4000000 in
theorem ms_177 {L : Nat} {xs : Nat → Int32} {d : Nat} (hd : 1 ≤ d) {v1 : Int32} {v2 : Int32} {M : mm_M} {q : (Int32 ⊕ Nat) × mm_M} {o : mm_E} (h : mf_177 v1 v2 M = some q) (hA : mm_A (mm_Kr mm_wi) q o) : mm_Runs L xs d 177 (0, mm_ent (mm_ml 177) [.ref 84, .int v1, .int v2], [], M) o := by
  unfold mf_177 at h
  obtain ⟨d, rfl⟩ := mm_d1 (n := 0) hd
  show mm_Runs L xs (d + 1) 177 (0, [some (.ref 84), some (.int v1), some (.int v2), none], [], M) o
  refine mm_Runs.seq (l := [(0, .aload_n 0, 1), (1, .iload_n 1, 1)]) (S2 := (2, [some (.ref 84), some (.int v1), some (.int v2), none], [.int v1, .ref 84], M)) (by decide +kernel) (hO := mm_own_177) rfl ?_
  refine mm_R_zlt (t := 17) rfl rfl rfl (fun hc => ?_) (fun hc => ?_)
  · replace h := mm_ip hc h
    exact (ms_177_j17 hd h hA : mp_177_17 L xs (d + 1) v1 v2 M o) none
  · replace h := mm_iq hc h
    refine mm_Runs.seq (l := [(5, .iload_n 1, 1), (6, .aload_n 0, 1), (7, .getfield 91, 3)]) (S2 := (10, [some (.ref 84), some (.int v1), some (.int v2), none], [.int (M.1 84 2), .int v1, .ref 84], M)) (by decide +kernel) (hO := mm_own_177) rfl ?_
    refine mm_R_ige (t := 17) rfl rfl rfl (fun hc => ?_) (fun hc => ?_)
    · replace h := mm_ip hc h
      refine mm_Runs.seq (l := [(13, .iconst 1, 1), (14, .goto 4, 3)]) (S2 := (18, [some (.ref 84), some (.int v1), some (.int v2), none], [.int (1 : Int32), .ref 84], M)) (by decide +kernel) (hO := mm_own_177) rfl ?_
      exact (ms_177_j18 hd h hA : mp_177_18 L xs (d + 1) v1 v2 (1 : Int32) M o) none
    · replace h := mm_iq hc h
      exact (ms_177_j17 hd h hA : mp_177_17 L xs (d + 1) v1 v2 M o) none
-- 16: PlainPacks.turn()I (depth 7)
theorem mm_own_16 : mm_own 16 = 0 := rfl
set_option maxRecDepth 8000 in
set_option maxHeartbeats 4000000 in
theorem ms_16 {L : Nat} {xs : Nat → Int32} {d : Nat} (hd : 7 ≤ d) {M : mm_M} {q : (Int32 ⊕ Nat) × mm_M} {o : mm_E} (h : mf_16 M = some q) (hA : mm_A (mm_Kr mm_wi) q o) : mm_Runs L xs d 16 (0, mm_ent (mm_ml 16) [.ref 0], [], M) o := by
  unfold mf_16 at h
  show mm_Runs L xs (d) 16 (0, [some (.ref 0)], [], M) o
  refine mm_Runs.seq (l := [(0, .aload_n 0, 1), (1, .getfield 19, 3), (4, .getfield 118, 3), (7, .sipush 10000, 3)]) (S2 := (10, [some (.ref 0)], [.int (10000 : Int32), .int (M.1 3 1)], M)) (by decide +kernel) (hO := mm_own_16) rfl ?_
  refine mm_R_ile (t := 23) rfl rfl rfl (fun hc => ?_) (fun hc => ?_)
  · replace h := mm_ip hc h
    cases h
    exact mm_R_thr rfl rfl rfl (by omega) hA
  · replace h := mm_iq hc h
    refine mm_Runs.seq (l := [(23, .aload_n 0, 1), (24, .getfield 19, 3), (27, .getfield 121, 3), (30, .iconst 0, 1), (31, .aload_n 0, 1), (32, .getfield 12, 3), (35, .getfield 115, 3), (38, .iconst 0, 1), (39, .aload_n 0, 1), (40, .getfield 19, 3), (43, .getfield 118, 3)]) (S2 := (46, [some (.ref 0)], [.int (M.1 3 1), .int (0 : Int32), .ref 2, .int (0 : Int32), .ref 4], M)) (by decide +kernel) (hO := mm_own_16) rfl ?_
    obtain ⟨hb, h⟩ := mm_gd h
    refine mm_R_cpy rfl rfl rfl rfl rfl hb (by omega) ?_
    refine mm_Runs.seq (l := [(49, .aload_n 0, 1), (50, .getfield 12, 3), (53, .aload_n 0, 1), (54, .getfield 19, 3), (57, .getfield 118, 3), (60, .putfield 90, 3), (63, .aload_n 0, 1), (64, .getfield 12, 3), (67, .getfield 90, 3)]) (S2 := (70, [some (.ref 0)], [.int ((mm_cpM M 4 (0 : Int32) 2 (0 : Int32) (M.1 3 1)).1 3 1)], (mm_pi (mm_cpM M 4 (0 : Int32) 2 (0 : Int32) (M.1 3 1)) 1 1 ((mm_cpM M 4 (0 : Int32) 2 (0 : Int32) (M.1 3 1)).1 3 1)))) (by decide +kernel) (hO := mm_own_16) rfl ?_
    cases h
    exact mm_R_reti rfl rfl hA
-- 3: PlainPacksLaw.turn(LPlainPacks;[J)I (depth 8)
theorem mm_own_3 : mm_own 3 = 13 := rfl
set_option maxRecDepth 8000 in
set_option maxHeartbeats 4000000 in
theorem ms_3 {L : Nat} {xs : Nat → Int32} {d : Nat} (hd : 8 ≤ d) {M : mm_M} {q : (Int32 ⊕ Nat) × mm_M} {o : mm_E} (h : mf_3 M = some q) (hA : mm_A (mm_Kr mm_wi) q o) : mm_Runs L xs d 3 (0, mm_ent (mm_ml 3) [.ref 0, .ref 110], [], M) o := by
  unfold mf_3 at h
  obtain ⟨d, rfl⟩ := mm_d1 (n := 7) hd
  show mm_Runs L xs (d + 1) 3 (0, [some (.ref 0), some (.ref 110), none], [], M) o
  refine mm_Runs.seq (l := [(0, .aload_n 1, 1), (1, .iconst 0, 1), (2, .aload_n 0, 1)]) (S2 := (3, [some (.ref 0), some (.ref 110), none], [.ref 0, .int (0 : Int32), .ref 110], M)) (by decide +kernel) (hO := mm_own_3) rfl ?_
  refine mm_R_callc (v := mm_wi) (X := 3) (hh := 12) (i := 2) h hA (k2 := 16) (as := [.ref 0]) (r := [.int (0 : Int32), .ref 110]) rfl rfl rfl (fun q hq o ho => ms_16 (by omega) hq ho) (fun r1 M2 h => ?_) (fun M3 h => ?_)
  · show mm_Runs L xs (d + 1) 3 (6, [some (.ref 0), some (.ref 110), none], [.int r1, .int (0 : Int32), .ref 110], M2) o
    refine mm_Runs.seq (l := [(6, .i2l, 1)]) (S2 := (7, [some (.ref 0), some (.ref 110), none], [.long r1.toInt64, .int (0 : Int32), .ref 110], M2)) (by decide +kernel) (hO := mm_own_3) rfl ?_
    obtain ⟨hb, h⟩ := mm_gd h
    refine mm_R_last rfl rfl hb ?_
    refine mm_Runs.seq (l := [(8, .goto 6, 3), (14, .iconst 0, 1)]) (S2 := (15, [some (.ref 0), some (.ref 110), none], [.int (0 : Int32)], (mm_pl M2 110 (0 : Int32).toNatClampNeg r1.toInt64))) (by decide +kernel) (hO := mm_own_3) rfl ?_
    cases h
    exact mm_R_reti rfl rfl hA
  · show mm_Runs L xs (d + 1) 3 (12, [some (.ref 0), some (.ref 110), none], [], M3) o
    refine mm_Runs.seq (l := [(12, .iconst 1, 1)]) (S2 := (13, [some (.ref 0), some (.ref 110), none], [.int (1 : Int32)], M3)) (by decide +kernel) (hO := mm_own_3) rfl ?_
    cases h
    exact mm_R_reti rfl rfl hA
-- 178: PlainPacksModel.turn()I (depth 1)
theorem mm_own_178 : mm_own 178 = 12 := rfl
def mp_178_16 (L : Nat) (xs : Nat → Int32) (d : Nat) (s1 : Int32) (M : mm_M) (o : mm_E) : Prop := ∀ z1 : Option Value, mm_Runs L xs d 178 (16, [some (.ref 84), z1], [.int s1, .ref 84], M) o
def mp_178_26 (L : Nat) (xs : Nat → Int32) (d : Nat) (v1 : Int32) (M : mm_M) (o : mm_E) : Prop := mm_Runs L xs d 178 (26, [some (.ref 84), some (.int v1)], [], M) o
def mp_178_52 (L : Nat) (xs : Nat → Int32) (d : Nat) (M : mm_M) (o : mm_E) : Prop := ∀ z1 : Option Value, mm_Runs L xs d 178 (52, [some (.ref 84), z1], [], M) o
set_option maxRecDepth 8000 in
set_option maxHeartbeats 4000000 in
theorem ms_178_b26 {L : Nat} {xs : Nat → Int32} {d : Nat} (hd : 1 ≤ d) {v1 : Int32} {M : mm_M} {q : (((Int32) ⊕ (Unit)) ⊕ Nat) × mm_M} {o : mm_E} (h : mf_178_b26 v1 M = some q) (hA : mm_A (mm_K2 (fun s M o => mp_178_26 L xs (d) s M o) (fun r M o => mp_178_52 L xs (d) M o)) q o) : mp_178_26 L xs d v1 M o := by
  unfold mf_178_b26 at h
  obtain ⟨d, rfl⟩ := mm_d1 (n := 0) hd
  show mm_Runs L xs (d + 1) 178 (26, [some (.ref 84), some (.int v1)], [], M) o
  refine mm_Runs.seq (l := [(26, .iload_n 1, 1), (27, .aload_n 0, 1), (28, .getfield 98, 3)]) (S2 := (31, [some (.ref 84), some (.int v1)], [.int (M.1 84 4), .int v1], M)) (by decide +kernel) (hO := mm_own_178) rfl ?_
  refine mm_R_ige (t := 52) rfl rfl rfl (fun hc => ?_) (fun hc => ?_)
  · replace h := mm_ip hc h
    refine mm_Runs.seq (l := [(34, .aload_n 0, 1), (35, .getfield 7, 3), (38, .iload_n 1, 1), (39, .aload_n 0, 1), (40, .getfield 13, 3), (43, .iload_n 1, 1)]) (S2 := (44, [some (.ref 84), some (.int v1)], [.int v1, .ref 86, .int v1, .ref 85], M)) (by decide +kernel) (hO := mm_own_178) rfl ?_
    obtain ⟨hb, h⟩ := mm_gd h
    refine mm_R_iald rfl rfl hb ?_
    obtain ⟨hb, h⟩ := mm_gd h
    refine mm_R_iast rfl rfl hb ?_
    refine mm_Runs.seq (l := [(46, .iinc 1 1, 3), (49, .goto (-23), 3)]) (S2 := (26, [some (.ref 84), some (.int (v1 + (1 : Int32)))], [], (mm_pi M 85 v1.toNatClampNeg (M.1 86 v1.toNatClampNeg)))) (by decide +kernel) (hO := mm_own_178) rfl ?_
    cases h
    exact (show mp_178_26 L xs (d + 1) (v1 + (1 : Int32)) (mm_pi M 85 v1.toNatClampNeg (M.1 86 v1.toNatClampNeg)) o from hA)
  · replace h := mm_iq hc h
    cases h
    exact (show mp_178_52 L xs (d + 1) M o from hA) (some (.int v1))
theorem ms_178_L26 {L : Nat} {xs : Nat → Int32} {d : Nat} (hd : 1 ≤ d) {v1 : Int32} {β : Type} {K : β → mm_M → mm_E → Prop} {F : (Unit) → mm_M → mm_O β} {M : mm_M} {q : (β ⊕ Nat) × mm_M} {o : mm_E} (h : mm_B (mf_178_L26 v1 M) F = some q) (hA : mm_A K q o) (hx : ∀ (r : (Unit)) (M2 : mm_M), F r M2 = some q → (fun r M o => mp_178_52 L xs (d) M o) r M2 o) : mp_178_26 L xs d v1 M o := by
  unfold mf_178_L26 at h
  exact mm_R_loop (step := (fun s M => mf_178_b26 s M)) (s := v1) (M := M) (P := (fun s M o => mp_178_26 L xs (d) s M o)) (X := (fun r M o => mp_178_52 L xs (d) M o)) h hA (fun s M q hq hA => ms_178_b26 (v1 := s) (M := M) (q := q) hd hq hA) hx
set_option maxRecDepth 8000 in
set_option maxHeartbeats 4000000 in
theorem ms_178_j16 {L : Nat} {xs : Nat → Int32} {d : Nat} (hd : 1 ≤ d) {s1 : Int32} {M : mm_M} {q : (Int32 ⊕ Nat) × mm_M} {o : mm_E} (h : mf_178_j16 s1 M = some q) (hA : mm_A (mm_Kr mm_wi) q o) : mp_178_16 L xs d s1 M o := by
  unfold mf_178_j16 at h
  obtain ⟨d, rfl⟩ := mm_d1 (n := 0) hd
  intro z1
  show mm_Runs L xs (d + 1) 178 (16, [some (.ref 84), z1], [.int s1, .ref 84], M) o
  refine mm_R_call (v := mm_wi) h hA (k2 := 174) (as := [.ref 84, .int s1]) (r := []) rfl (fun _ => rfl) (fun q hq o ho => ms_174 (by omega) hq ho) (fun r1 M2 h => ?_)
  show mm_Runs L xs (d + 1) 178 (19, [some (.ref 84), z1], [.int r1], M2) o
  refine mm_R_zne (t := 24) rfl rfl rfl (fun hc => ?_) (fun hc => ?_)
  · replace h := mm_ip hc h
    refine mm_Runs.seq (l := [(22, .iconst 0, 1)]) (S2 := (23, [some (.ref 84), z1], [.int (0 : Int32)], M2)) (by decide +kernel) (hO := mm_own_178) rfl ?_
    cases h
    exact mm_R_reti rfl rfl hA
  · replace h := mm_iq hc h
    refine mm_Runs.seq (l := [(24, .iconst 0, 1), (25, .istore_n 1, 1)]) (S2 := (26, [some (.ref 84), some (.int (0 : Int32))], [], M2)) (by decide +kernel) (hO := mm_own_178) rfl ?_
    have hp : mp_178_26 L xs (d + 1) (0 : Int32) M2 o := by
      refine ms_178_L26 hd h hA (fun r4 M3 h => ?_)
      intro y5
      show mm_Runs L xs (d + 1) 178 (52, [some (.ref 84), y5], [], M3) o
      refine mm_Runs.seq (l := [(52, .aload_n 0, 1), (53, .aload_n 0, 1), (54, .getfield 98, 3), (57, .putfield 91, 3), (60, .aload_n 0, 1), (61, .getfield 91, 3)]) (S2 := (64, [some (.ref 84), y5], [.int (M3.1 84 4)], (mm_pi M3 84 2 (M3.1 84 4)))) (by decide +kernel) (hO := mm_own_178) rfl ?_
      cases h
      exact mm_R_reti rfl rfl hA
    exact hp
set_option maxRecDepth 8000 in
set_option maxHeartbeats 4000000 in
theorem ms_178 {L : Nat} {xs : Nat → Int32} {d : Nat} (hd : 1 ≤ d) {M : mm_M} {q : (Int32 ⊕ Nat) × mm_M} {o : mm_E} (h : mf_178 M = some q) (hA : mm_A (mm_Kr mm_wi) q o) : mm_Runs L xs d 178 (0, mm_ent (mm_ml 178) [.ref 84], [], M) o := by
  unfold mf_178 at h
  obtain ⟨d, rfl⟩ := mm_d1 (n := 0) hd
  show mm_Runs L xs (d + 1) 178 (0, [some (.ref 84), none], [], M) o
  refine mm_Runs.seq (l := [(0, .aload_n 0, 1), (1, .aload_n 0, 1), (2, .getfield 98, 3), (5, .sipush 10000, 3)]) (S2 := (8, [some (.ref 84), none], [.int (10000 : Int32), .int (M.1 84 4), .ref 84], M)) (by decide +kernel) (hO := mm_own_178) rfl ?_
  refine mm_R_igt (t := 15) rfl rfl rfl (fun hc => ?_) (fun hc => ?_)
  · replace h := mm_ip hc h
    refine mm_Runs.seq (l := [(15, .iconst 0, 1)]) (S2 := (16, [some (.ref 84), none], [.int (0 : Int32), .ref 84], M)) (by decide +kernel) (hO := mm_own_178) rfl ?_
    exact (ms_178_j16 hd h hA : mp_178_16 L xs (d + 1) (0 : Int32) M o) none
  · replace h := mm_iq hc h
    refine mm_Runs.seq (l := [(11, .iconst 1, 1), (12, .goto 4, 3)]) (S2 := (16, [some (.ref 84), none], [.int (1 : Int32), .ref 84], M)) (by decide +kernel) (hO := mm_own_178) rfl ?_
    exact (ms_178_j16 hd h hA : mp_178_16 L xs (d + 1) (1 : Int32) M o) none
-- 26: PlainPacks.needForm(I)V (depth 7)
theorem mm_own_26 : mm_own 26 = 0 := rfl
set_option maxRecDepth 8000 in
set_option maxHeartbeats 4000000 in
theorem ms_26 {L : Nat} {xs : Nat → Int32} {d : Nat} (hd : 7 ≤ d) {v0 : Int32} {M : mm_M} {q : (Unit ⊕ Nat) × mm_M} {o : mm_E} (h : mf_26 v0 M = some q) (hA : mm_A (mm_Kr mm_wv) q o) : mm_Runs L xs d 26 (0, mm_ent (mm_ml 26) [.int v0], [], M) o := by
  unfold mf_26 at h
  show mm_Runs L xs (d) 26 (0, [some (.int v0)], [], M) o
  refine mm_Runs.seq (l := [(0, .iload_n 0, 1)]) (S2 := (1, [some (.int v0)], [.int v0], M)) (by decide +kernel) (hO := mm_own_26) rfl ?_
  refine mm_R_zlt (t := 10) rfl rfl rfl (fun hc => ?_) (fun hc => ?_)
  · replace h := mm_ip hc h
    cases h
    exact mm_R_thr rfl rfl rfl (by omega) hA
  · replace h := mm_iq hc h
    refine mm_Runs.seq (l := [(4, .iload_n 0, 1), (5, .bipush 10, 2)]) (S2 := (7, [some (.int v0)], [.int (10 : Int32), .int v0], M)) (by decide +kernel) (hO := mm_own_26) rfl ?_
    refine mm_R_ile (t := 21) rfl rfl rfl (fun hc => ?_) (fun hc => ?_)
    · replace h := mm_ip hc h
      cases h
      exact mm_R_thr rfl rfl rfl (by omega) hA
    · replace h := mm_iq hc h
      cases h
      exact mm_R_retv rfl rfl hA
-- 40: PlainPacks$Source.start()V (depth 0)
theorem mm_own_40 : mm_own 40 = 1 := rfl
set_option maxRecDepth 8000 in
set_option maxHeartbeats 4000000 in
theorem ms_40 {L : Nat} {xs : Nat → Int32} {d : Nat} (hd : 0 ≤ d) {M : mm_M} {q : (Unit ⊕ Nat) × mm_M} {o : mm_E} (h : mf_40 M = some q) (hA : mm_A (mm_Kr mm_wv) q o) : mm_Runs L xs d 40 (0, mm_ent (mm_ml 40) [.ref 1], [], M) o := by
  unfold mf_40 at h
  show mm_Runs L xs (d) 40 (0, [some (.ref 1)], [], M) o
  refine mm_Runs.seq (l := [(0, .aload_n 0, 1), (1, .iconst 0, 1), (2, .putfield 19, 3), (5, .aload_n 0, 1), (6, .aload_n 0, 1), (7, .getfield 15, 3), (10, .putfield 22, 3), (13, .aload_n 0, 1), (14, .iconst 0, 1), (15, .putfield 25, 3), (18, .aload_n 0, 1), (19, .iconst 0, 1), (20, .putfield 29, 3), (23, .aload_n 0, 1), (24, .iconst 0, 1), (25, .putfield 32, 3)]) (S2 := (28, [some (.ref 1)], [], (mm_pi (mm_pi (mm_pi (mm_pi (mm_pi M 1 2 (0 : Int32)) 1 3 (M.1 1 1)) 1 4 (0 : Int32)) 1 5 (0 : Int32)) 1 6 (0 : Int32)))) (by decide +kernel) (hO := mm_own_40) rfl ?_
  cases h
  exact mm_R_retv rfl rfl hA
-- 49: PlainPacks$Sink.start()V (depth 0)
theorem mm_own_49 : mm_own 49 = 2 := rfl
set_option maxRecDepth 8000 in
set_option maxHeartbeats 4000000 in
theorem ms_49 {L : Nat} {xs : Nat → Int32} {d : Nat} (hd : 0 ≤ d) {M : mm_M} {q : (Unit ⊕ Nat) × mm_M} {o : mm_E} (h : mf_49 M = some q) (hA : mm_A (mm_Kr mm_wv) q o) : mm_Runs L xs d 49 (0, mm_ent (mm_ml 49) [.ref 3], [], M) o := by
  unfold mf_49 at h
  show mm_Runs L xs (d) 49 (0, [some (.ref 3)], [], M) o
  refine mm_Runs.seq (l := [(0, .aload_n 0, 1), (1, .iconst 0, 1), (2, .putfield 15, 3), (5, .aload_n 0, 1), (6, .iconst 0, 1), (7, .putfield 19, 3), (10, .aload_n 0, 1), (11, .iconst 0, 1), (12, .putfield 22, 3), (15, .aload_n 0, 1), (16, .iconst 0, 1), (17, .putfield 25, 3), (20, .aload_n 0, 1), (21, .iconst 0, 1), (22, .putfield 28, 3), (25, .aload_n 0, 1), (26, .iconst 0, 1), (27, .putfield 31, 3)]) (S2 := (30, [some (.ref 3)], [], (mm_pi (mm_pi (mm_pi (mm_pi (mm_pi (mm_pi M 3 1 (0 : Int32)) 3 2 (0 : Int32)) 3 3 (0 : Int32)) 3 4 (0 : Int32)) 3 5 (0 : Int32)) 3 6 (0 : Int32)))) (by decide +kernel) (hO := mm_own_49) rfl ?_
  cases h
  exact mm_R_retv rfl rfl hA
-- 43: PlainPacks$Source.atEdge()Z (depth 0)
theorem mm_own_43 : mm_own 43 = 1 := rfl
set_option maxRecDepth 8000 in
set_option maxHeartbeats 4000000 in
theorem ms_43 {L : Nat} {xs : Nat → Int32} {d : Nat} (hd : 0 ≤ d) {M : mm_M} {q : (Int32 ⊕ Nat) × mm_M} {o : mm_E} (h : mf_43 M = some q) (hA : mm_A (mm_Kr mm_wi) q o) : mm_Runs L xs d 43 (0, mm_ent (mm_ml 43) [.ref 1], [], M) o := by
  unfold mf_43 at h
  show mm_Runs L xs (d) 43 (0, [some (.ref 1)], [], M) o
  refine mm_Runs.seq (l := [(0, .aload_n 0, 1), (1, .getfield 19, 3), (4, .aload_n 0, 1), (5, .getfield 22, 3)]) (S2 := (8, [some (.ref 1)], [.int (M.1 1 3), .int (M.1 1 2)], M)) (by decide +kernel) (hO := mm_own_43) rfl ?_
  refine mm_R_ilt (t := 15) rfl rfl rfl (fun hc => ?_) (fun hc => ?_)
  · replace h := mm_ip hc h
    refine mm_Runs.seq (l := [(15, .iconst 0, 1)]) (S2 := (16, [some (.ref 1)], [.int (0 : Int32)], M)) (by decide +kernel) (hO := mm_own_43) rfl ?_
    cases h
    exact mm_R_retb rfl rfl rfl hA
  · replace h := mm_iq hc h
    refine mm_Runs.seq (l := [(11, .iconst 1, 1), (12, .goto 4, 3)]) (S2 := (16, [some (.ref 1)], [.int (1 : Int32)], M)) (by decide +kernel) (hO := mm_own_43) rfl ?_
    cases h
    exact mm_R_retb rfl rfl rfl hA
-- 44: PlainPacks$Source.next()I (depth 7)
theorem mm_own_44 : mm_own 44 = 1 := rfl
set_option maxRecDepth 8000 in
set_option maxHeartbeats 4000000 in
theorem ms_44 {L : Nat} {xs : Nat → Int32} {d : Nat} (hd : 7 ≤ d) {M : mm_M} {q : (Int32 ⊕ Nat) × mm_M} {o : mm_E} (h : mf_44 M = some q) (hA : mm_A (mm_Kr mm_wi) q o) : mm_Runs L xs d 44 (0, mm_ent (mm_ml 44) [.ref 1], [], M) o := by
  unfold mf_44 at h
  show mm_Runs L xs (d) 44 (0, [some (.ref 1), none], [], M) o
  refine mm_Runs.seq (l := [(0, .aload_n 0, 1), (1, .getfield 19, 3), (4, .aload_n 0, 1), (5, .getfield 22, 3)]) (S2 := (8, [some (.ref 1), none], [.int (M.1 1 3), .int (M.1 1 2)], M)) (by decide +kernel) (hO := mm_own_44) rfl ?_
  refine mm_R_ilt (t := 21) rfl rfl rfl (fun hc => ?_) (fun hc => ?_)
  · replace h := mm_ip hc h
    refine mm_Runs.seq (l := [(21, .aload_n 0, 1), (22, .iconst 0, 1), (23, .putfield 32, 3), (26, .aload_n 0, 1), (27, .getfield 9, 3), (30, .aload_n 0, 1), (31, .getfield 19, 3)]) (S2 := (34, [some (.ref 1), none], [.int (M.1 1 2), .ref 2], (mm_pi M 1 6 (0 : Int32)))) (by decide +kernel) (hO := mm_own_44) rfl ?_
    obtain ⟨hb, h⟩ := mm_gd h
    refine mm_R_iald rfl rfl hb ?_
    refine mm_Runs.seq (l := [(35, .istore_n 1, 1), (36, .aload_n 0, 1), (37, .dup, 1), (38, .getfield 19, 3), (41, .iconst 1, 1), (42, .iadd, 1), (43, .putfield 19, 3), (46, .iload_n 1, 1)]) (S2 := (47, [some (.ref 1), some (.int (M.1 2 (M.1 1 2).toNatClampNeg))], [.int (M.1 2 (M.1 1 2).toNatClampNeg)], (mm_pi (mm_pi M 1 6 (0 : Int32)) 1 2 ((M.1 1 2) + (1 : Int32))))) (by decide +kernel) (hO := mm_own_44) rfl ?_
    cases h
    exact mm_R_reti rfl rfl hA
  · replace h := mm_iq hc h
    cases h
    exact mm_R_thr rfl rfl rfl (by omega) hA
