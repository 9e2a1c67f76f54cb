/-! MEANINGS ARE SOUND 13 -/
-- 4: PlainPacksLaw.open(LPlainPacks;I[J)I (depth 14)
theorem mm_own_4 : mm_own 4 = 13 := rfl
set_option maxRecDepth 8000 in
set_option maxHeartbeats 4000000 in
theorem ms_4 {L : Nat} {xs : Nat → Int32} {d : Nat} (hd : 14 ≤ d) {v1 : Int32} {M : mm_M} {q : (Int32 ⊕ Nat) × mm_M} {o : mm_E} (h : mf_4 v1 M = some q) (hA : mm_A (mm_Kr mm_wi) q o) : mm_Runs L xs d 4 (0, mm_ent (mm_ml 4) [.ref 0, .int v1, .ref 110], [], M) o := by
  unfold mf_4 at h
  obtain ⟨d, rfl⟩ := mm_d1 (n := 13) hd
  show mm_Runs L xs (d + 1) 4 (0, [some (.ref 0), some (.int v1), some (.ref 110), none], [], M) o
  refine mm_Runs.seq (l := [(0, .aload_n 2, 1), (1, .iconst 0, 1), (2, .aload_n 0, 1), (3, .iload_n 1, 1)]) (S2 := (4, [some (.ref 0), some (.int v1), some (.ref 110), none], [.int v1, .ref 0, .int (0 : Int32), .ref 110], M)) (by decide +kernel) (hO := mm_own_4) rfl ?_
  refine mm_R_callc (v := mm_wi) (X := 1) (hh := 13) (i := 3) h hA (k2 := 17) (as := [.ref 0, .int v1]) (r := [.int (0 : Int32), .ref 110]) rfl rfl rfl (fun q hq o ho => ms_17 (by omega) hq ho) (fun r1 M2 h => ?_) (fun M3 h => ?_)
  · show mm_Runs L xs (d + 1) 4 (7, [some (.ref 0), some (.int v1), some (.ref 110), none], [.int r1, .int (0 : Int32), .ref 110], M2) o
    refine mm_Runs.seq (l := [(7, .i2l, 1)]) (S2 := (8, [some (.ref 0), some (.int v1), some (.ref 110), none], [.long r1.toInt64, .int (0 : Int32), .ref 110], M2)) (by decide +kernel) (hO := mm_own_4) rfl ?_
    obtain ⟨hb, h⟩ := mm_gd h
    refine mm_R_last rfl rfl hb ?_
    refine mm_Runs.seq (l := [(9, .goto 6, 3), (15, .iconst 0, 1)]) (S2 := (16, [some (.ref 0), some (.int v1), some (.ref 110), none], [.int (0 : Int32)], (mm_pl M2 110 (0 : Int32).toNatClampNeg r1.toInt64))) (by decide +kernel) (hO := mm_own_4) rfl ?_
    cases h
    exact mm_R_reti rfl rfl hA
  · show mm_Runs L xs (d + 1) 4 (13, [some (.ref 0), some (.int v1), some (.ref 110), none], [], M3) o
    refine mm_Runs.seq (l := [(13, .iconst 1, 1)]) (S2 := (14, [some (.ref 0), some (.int v1), some (.ref 110), none], [.int (1 : Int32)], M3)) (by decide +kernel) (hO := mm_own_4) rfl ?_
    cases h
    exact mm_R_reti rfl rfl hA
-- 190: PlainPacksModel.bad()V (depth 0)
theorem mm_own_190 : mm_own 190 = 12 := rfl
set_option maxRecDepth 8000 in
set_option maxHeartbeats 4000000 in
theorem ms_190 {L : Nat} {xs : Nat → Int32} {d : Nat} (hd : 0 ≤ d) {M : mm_M} {q : (Unit ⊕ Nat) × mm_M} {o : mm_E} (h : mf_190 M = some q) (hA : mm_A (mm_Kr mm_wv) q o) : mm_Runs L xs d 190 (0, mm_ent (mm_ml 190) [.ref 84], [], M) o := by
  unfold mf_190 at h
  show mm_Runs L xs (d) 190 (0, [some (.ref 84)], [], M) o
  refine mm_Runs.seq (l := [(0, .aload_n 0, 1), (1, .iconst 1, 1), (2, .putfield 154, 3)]) (S2 := (5, [some (.ref 84)], [], (mm_pi M 84 7 (1 : Int32)))) (by decide +kernel) (hO := mm_own_190) rfl ?_
  cases h
  exact mm_R_retv rfl rfl hA
-- 191: PlainPacksModel.next()I (depth 1)
theorem mm_own_191 : mm_own 191 = 12 := rfl
def mp_191_29 (L : Nat) (xs : Nat → Int32) (d : Nat) (M : mm_M) (o : mm_E) : Prop := mm_Runs L xs d 191 (29, [some (.ref 84)], [], M) o
set_option maxRecDepth 8000 in
set_option maxHeartbeats 4000000 in
theorem ms_191_j29 {L : Nat} {xs : Nat → Int32} {d : Nat} (hd : 1 ≤ d) {M : mm_M} {q : (Int32 ⊕ Nat) × mm_M} {o : mm_E} (h : mf_191_j29 M = some q) (hA : mm_A (mm_Kr mm_wi) q o) : mp_191_29 L xs d M o := by
  unfold mf_191_j29 at h
  obtain ⟨d, rfl⟩ := mm_d1 (n := 0) hd
  show mm_Runs L xs (d + 1) 191 (29, [some (.ref 84)], [], M) o
  refine mm_Runs.seq (l := [(29, .aload_n 0, 1)]) (S2 := (30, [some (.ref 84)], [.ref 84], M)) (by decide +kernel) (hO := mm_own_191) rfl ?_
  refine mm_R_call (v := mm_wv) h hA (k2 := 190) (as := [.ref 84]) (r := []) rfl (fun _ => rfl) (fun q hq o ho => ms_190 (by omega) hq ho) (fun _ M1 h => ?_)
  show mm_Runs L xs (d + 1) 191 (33, [some (.ref 84)], [], M1) o
  refine mm_Runs.seq (l := [(33, .iconst 0, 1)]) (S2 := (34, [some (.ref 84)], [.int (0 : Int32)], M1)) (by decide +kernel) (hO := mm_own_191) rfl ?_
  cases h
  exact mm_R_reti rfl rfl hA
set_option maxRecDepth 8000 in
set_option maxHeartbeats 4000000 in
theorem ms_191 {L : Nat} {xs : Nat → Int32} {d : Nat} (hd : 1 ≤ d) {M : mm_M} {q : (Int32 ⊕ Nat) × mm_M} {o : mm_E} (h : mf_191 M = some q) (hA : mm_A (mm_Kr mm_wi) q o) : mm_Runs L xs d 191 (0, mm_ent (mm_ml 191) [.ref 84], [], M) o := by
  unfold mf_191 at h
  obtain ⟨d, rfl⟩ := mm_d1 (n := 0) hd
  show mm_Runs L xs (d + 1) 191 (0, [some (.ref 84)], [], M) o
  refine mm_Runs.seq (l := [(0, .aload_n 0, 1), (1, .getfield 154, 3)]) (S2 := (4, [some (.ref 84)], [.int (M.1 84 7)], M)) (by decide +kernel) (hO := mm_own_191) rfl ?_
  refine mm_R_zne (t := 29) rfl rfl rfl (fun hc => ?_) (fun hc => ?_)
  · replace h := mm_ip hc h
    refine mm_Runs.seq (l := [(7, .aload_n 0, 1), (8, .getfield 101, 3), (11, .aload_n 0, 1), (12, .getfield 91, 3)]) (S2 := (15, [some (.ref 84)], [.int (M.1 84 2), .int (M.1 84 5)], M)) (by decide +kernel) (hO := mm_own_191) rfl ?_
    refine mm_R_ige (t := 29) rfl rfl rfl (fun hc => ?_) (fun hc => ?_)
    · replace h := mm_ip hc h
      refine mm_Runs.seq (l := [(18, .aload_n 0, 1), (19, .getfield 101, 3), (22, .aload_n 0, 1), (23, .getfield 158, 3)]) (S2 := (26, [some (.ref 84)], [.int (M.1 84 6), .int (M.1 84 5)], M)) (by decide +kernel) (hO := mm_own_191) rfl ?_
      refine mm_R_ilt (t := 35) rfl rfl rfl (fun hc => ?_) (fun hc => ?_)
      · replace h := mm_ip hc h
        refine mm_Runs.seq (l := [(35, .aload_n 0, 1), (36, .dup, 1), (37, .getfield 101, 3), (40, .iconst 1, 1), (41, .iadd, 1), (42, .putfield 101, 3), (45, .aload_n 0, 1), (46, .getfield 7, 3), (49, .aload_n 0, 1), (50, .getfield 101, 3), (53, .iconst 1, 1), (54, .isub, 1)]) (S2 := (55, [some (.ref 84)], [.int (((M.1 84 5) + (1 : Int32)) - (1 : Int32)), .ref 85], (mm_pi M 84 5 ((M.1 84 5) + (1 : Int32))))) (by decide +kernel) (hO := mm_own_191) rfl ?_
        obtain ⟨hb, h⟩ := mm_gd h
        refine mm_R_iald rfl rfl hb ?_
        cases h
        exact mm_R_reti rfl rfl hA
      · replace h := mm_iq hc h
        exact (ms_191_j29 hd h hA : mp_191_29 L xs (d + 1) M o)
    · replace h := mm_iq hc h
      exact (ms_191_j29 hd h hA : mp_191_29 L xs (d + 1) M o)
  · replace h := mm_iq hc h
    exact (ms_191_j29 hd h hA : mp_191_29 L xs (d + 1) M o)
-- 194: PlainPacksModel.put(I)Z (depth 1)
theorem mm_own_194 : mm_own 194 = 12 := rfl
def mp_194_21 (L : Nat) (xs : Nat → Int32) (d : Nat) (v1 : Int32) (M : mm_M) (o : mm_E) : Prop := mm_Runs L xs d 194 (21, [some (.ref 84), some (.int v1)], [], M) o
set_option maxRecDepth 8000 in
set_option maxHeartbeats 4000000 in
theorem ms_194_j21 {L : Nat} {xs : Nat → Int32} {d : Nat} (hd : 1 ≤ d) {v1 : Int32} {M : mm_M} {q : (Int32 ⊕ Nat) × mm_M} {o : mm_E} (h : mf_194_j21 v1 M = some q) (hA : mm_A (mm_Kr mm_wi) q o) : mp_194_21 L xs d v1 M o := by
  unfold mf_194_j21 at h
  obtain ⟨d, rfl⟩ := mm_d1 (n := 0) hd
  show mm_Runs L xs (d + 1) 194 (21, [some (.ref 84), some (.int v1)], [], M) o
  refine mm_Runs.seq (l := [(21, .aload_n 0, 1), (22, .getfield 154, 3)]) (S2 := (25, [some (.ref 84), some (.int v1)], [.int (M.1 84 7)], M)) (by decide +kernel) (hO := mm_own_194) rfl ?_
  refine mm_R_zeq (t := 30) rfl rfl rfl (fun hc => ?_) (fun hc => ?_)
  · replace h := mm_ip hc h
    refine mm_Runs.seq (l := [(30, .aload_n 0, 1), (31, .getfield 13, 3), (34, .aload_n 0, 1), (35, .getfield 98, 3), (38, .iload_n 1, 1)]) (S2 := (39, [some (.ref 84), some (.int v1)], [.int v1, .int (M.1 84 4), .ref 86], M)) (by decide +kernel) (hO := mm_own_194) rfl ?_
    obtain ⟨hb, h⟩ := mm_gd h
    refine mm_R_iast rfl rfl hb ?_
    refine mm_Runs.seq (l := [(40, .aload_n 0, 1), (41, .dup, 1), (42, .getfield 98, 3), (45, .iconst 1, 1), (46, .iadd, 1), (47, .putfield 98, 3), (50, .iconst 1, 1)]) (S2 := (51, [some (.ref 84), some (.int v1)], [.int (1 : Int32)], (mm_pi (mm_pi M 86 (M.1 84 4).toNatClampNeg v1) 84 4 ((M.1 84 4) + (1 : Int32))))) (by decide +kernel) (hO := mm_own_194) rfl ?_
    cases h
    exact mm_R_retb rfl rfl rfl hA
  · replace h := mm_iq hc h
    refine mm_Runs.seq (l := [(28, .iconst 0, 1)]) (S2 := (29, [some (.ref 84), some (.int v1)], [.int (0 : Int32)], M)) (by decide +kernel) (hO := mm_own_194) rfl ?_
    cases h
    exact mm_R_retb rfl rfl rfl hA
set_option maxRecDepth 8000 in
set_option maxHeartbeats 4000000 in
theorem ms_194 {L : Nat} {xs : Nat → Int32} {d : Nat} (hd : 1 ≤ d) {v1 : Int32} {M : mm_M} {q : (Int32 ⊕ Nat) × mm_M} {o : mm_E} (h : mf_194 v1 M = some q) (hA : mm_A (mm_Kr mm_wi) q o) : mm_Runs L xs d 194 (0, mm_ent (mm_ml 194) [.ref 84, .int v1], [], M) o := by
  unfold mf_194 at h
  obtain ⟨d, rfl⟩ := mm_d1 (n := 0) hd
  show mm_Runs L xs (d + 1) 194 (0, [some (.ref 84), some (.int v1)], [], M) o
  refine mm_Runs.seq (l := [(0, .aload_n 0, 1), (1, .getfield 154, 3)]) (S2 := (4, [some (.ref 84), some (.int v1)], [.int (M.1 84 7)], M)) (by decide +kernel) (hO := mm_own_194) rfl ?_
  refine mm_R_zne (t := 21) rfl rfl rfl (fun hc => ?_) (fun hc => ?_)
  · replace h := mm_ip hc h
    refine mm_Runs.seq (l := [(7, .aload_n 0, 1), (8, .getfield 98, 3), (11, .sipush 16384, 3)]) (S2 := (14, [some (.ref 84), some (.int v1)], [.int (16384 : Int32), .int (M.1 84 4)], M)) (by decide +kernel) (hO := mm_own_194) rfl ?_
    refine mm_R_ine (t := 21) rfl rfl rfl (fun hc => ?_) (fun hc => ?_)
    · replace h := mm_ip hc h
      refine mm_Runs.seq (l := [(17, .aload_n 0, 1)]) (S2 := (18, [some (.ref 84), some (.int v1)], [.ref 84], M)) (by decide +kernel) (hO := mm_own_194) rfl ?_
      refine mm_R_call (v := mm_wv) h hA (k2 := 190) (as := [.ref 84]) (r := []) rfl (fun _ => rfl) (fun q hq o ho => ms_190 (by omega) hq ho) (fun _ M1 h => ?_)
      show mm_Runs L xs (d + 1) 194 (21, [some (.ref 84), some (.int v1)], [], M1) o
      exact (ms_194_j21 hd h hA : mp_194_21 L xs (d + 1) v1 M1 o)
    · replace h := mm_iq hc h
      exact (ms_194_j21 hd h hA : mp_194_21 L xs (d + 1) v1 M o)
  · replace h := mm_iq hc h
    exact (ms_194_j21 hd h hA : mp_194_21 L xs (d + 1) v1 M o)
-- 214: PlainPacksModel.runs()V (depth 2)
theorem mm_own_214 : mm_own 214 = 12 := rfl
def mp_214_0 (L : Nat) (xs : Nat → Int32) (d : Nat) (M : mm_M) (o : mm_E) : Prop := ∀ z1 z2 z3 : Option Value, mm_Runs L xs d 214 (0, [some (.ref 84), z1, z2, z3], [], M) o
def mp_214_109 (L : Nat) (xs : Nat → Int32) (d : Nat) (M : mm_M) (o : mm_E) : Prop := ∀ z0 z1 z2 z3 : Option Value, mm_Runs L xs d 214 (109, [z0, z1, z2, z3], [], M) o
def mp_214_32 (L : Nat) (xs : Nat → Int32) (d : Nat) (v1 : Int32) (v2 : Int32) (M : mm_M) (o : mm_E) : Prop := ∀ z3 : Option Value, mm_Runs L xs d 214 (32, [some (.ref 84), some (.int v1), some (.int v2), z3], [], M) o
def mp_214_61 (L : Nat) (xs : Nat → Int32) (d : Nat) (M : mm_M) (o : mm_E) : Prop := ∀ z1 z2 z3 : Option Value, mm_Runs L xs d 214 (61, [some (.ref 84), z1, z2, z3], [], M) o
set_option maxRecDepth 8000 in
set_option maxHeartbeats 4000000 in
theorem ms_214_b32 {L : Nat} {xs : Nat → Int32} {d : Nat} (hd : 2 ≤ d) {v1 : Int32} {v2 : Int32} {M : mm_M} {q : (((Int32) ⊕ (Unit)) ⊕ Nat) × mm_M} {o : mm_E} (h : mf_214_b32 v1 v2 M = some q) (hA : mm_A (mm_K2 (fun s M o => mp_214_32 L xs (d) v1 s M o) (fun r M o => mp_214_61 L xs (d) M o)) q o) : mp_214_32 L xs d v1 v2 M o := by
  unfold mf_214_b32 at h
  obtain ⟨d, rfl⟩ := mm_d1 (n := 1) hd
  intro z3
  show mm_Runs L xs (d + 1) 214 (32, [some (.ref 84), some (.int v1), some (.int v2), z3], [], M) o
  refine mm_Runs.seq (l := [(32, .iload_n 2, 1), (33, .iload_n 1, 1)]) (S2 := (34, [some (.ref 84), some (.int v1), some (.int v2), z3], [.int v1, .int v2], M)) (by decide +kernel) (hO := mm_own_214) rfl ?_
  refine mm_R_igt (t := 61) rfl rfl rfl (fun hc => ?_) (fun hc => ?_)
  · replace h := mm_ip hc h
    cases h
    exact (show mp_214_61 L xs (d + 1) M o from hA) (some (.int v1)) (some (.int v2)) z3
  · replace h := mm_iq hc h
    refine mm_Runs.seq (l := [(37, .aload_n 0, 1), (38, .getfield 154, 3)]) (S2 := (41, [some (.ref 84), some (.int v1), some (.int v2), z3], [.int (M.1 84 7)], M)) (by decide +kernel) (hO := mm_own_214) rfl ?_
    refine mm_R_zne (t := 61) rfl rfl rfl (fun hc => ?_) (fun hc => ?_)
    · replace h := mm_ip hc h
      refine mm_Runs.seq (l := [(44, .aload_n 0, 1)]) (S2 := (45, [some (.ref 84), some (.int v1), some (.int v2), z3], [.ref 84], M)) (by decide +kernel) (hO := mm_own_214) rfl ?_
      refine mm_R_call (v := mm_wi) h hA (k2 := 191) (as := [.ref 84]) (r := []) rfl (fun _ => rfl) (fun q hq o ho => ms_191 (by omega) hq ho) (fun r1 M2 h => ?_)
      show mm_Runs L xs (d + 1) 214 (48, [some (.ref 84), some (.int v1), some (.int v2), z3], [.int r1], M2) o
      refine mm_Runs.seq (l := [(48, .istore_n 3, 1), (49, .aload_n 0, 1), (50, .iload_n 3, 1)]) (S2 := (51, [some (.ref 84), some (.int v1), some (.int v2), some (.int r1)], [.int r1, .ref 84], M2)) (by decide +kernel) (hO := mm_own_214) rfl ?_
      refine mm_R_call (v := mm_wi) h hA (k2 := 194) (as := [.ref 84, .int r1]) (r := []) rfl (fun _ => rfl) (fun q hq o ho => ms_194 (by omega) hq ho) (fun r3 M4 h => ?_)
      show mm_Runs L xs (d + 1) 214 (54, [some (.ref 84), some (.int v1), some (.int v2), some (.int r1)], [.int r3], M4) o
      refine mm_Runs.seq (l := [(54, .pop, 1), (55, .iinc 2 1, 3), (58, .goto (-26), 3)]) (S2 := (32, [some (.ref 84), some (.int v1), some (.int (v2 + (1 : Int32))), some (.int r1)], [], M4)) (by decide +kernel) (hO := mm_own_214) rfl ?_
      cases h
      exact (show mp_214_32 L xs (d + 1) v1 (v2 + (1 : Int32)) M4 o from hA) (some (.int r1))
    · replace h := mm_iq hc h
      cases h
      exact (show mp_214_61 L xs (d + 1) M o from hA) (some (.int v1)) (some (.int v2)) z3
theorem ms_214_L32 {L : Nat} {xs : Nat → Int32} {d : Nat} (hd : 2 ≤ d) {v1 : Int32} {v2 : Int32} {β : Type} {K : β → mm_M → mm_E → Prop} {F : (Unit) → mm_M → mm_O β} {M : mm_M} {q : (β ⊕ Nat) × mm_M} {o : mm_E} (h : mm_B (mf_214_L32 v1 v2 M) F = some q) (hA : mm_A K q o) (hx : ∀ (r : (Unit)) (M2 : mm_M), F r M2 = some q → (fun r M o => mp_214_61 L xs (d) M o) r M2 o) : mp_214_32 L xs d v1 v2 M o := by
  unfold mf_214_L32 at h
  exact mm_R_loop (step := (fun s M => mf_214_b32 v1 s M)) (s := v2) (M := M) (P := (fun s M o => mp_214_32 L xs (d) v1 s M o)) (X := (fun r M o => mp_214_61 L xs (d) M o)) h hA (fun s M q hq hA => ms_214_b32 (v1 := v1) (v2 := s) (M := M) (q := q) hd hq hA) hx
def mp_214_78 (L : Nat) (xs : Nat → Int32) (d : Nat) (v1 : Int32) (v2 : Int32) (v3 : Int32) (M : mm_M) (o : mm_E) : Prop := mm_Runs L xs d 214 (78, [some (.ref 84), some (.int v1), some (.int v2), some (.int v3)], [], M) o
def mp_214_106 (L : Nat) (xs : Nat → Int32) (d : Nat) (M : mm_M) (o : mm_E) : Prop := ∀ z1 z2 z3 : Option Value, mm_Runs L xs d 214 (106, [some (.ref 84), z1, z2, z3], [], M) o
set_option maxRecDepth 8000 in
set_option maxHeartbeats 4000000 in
theorem ms_214_b78 {L : Nat} {xs : Nat → Int32} {d : Nat} (hd : 2 ≤ d) {v1 : Int32} {v2 : Int32} {v3 : Int32} {M : mm_M} {q : (((Int32) ⊕ (Unit)) ⊕ Nat) × mm_M} {o : mm_E} (h : mf_214_b78 v1 v2 v3 M = some q) (hA : mm_A (mm_K2 (fun s M o => mp_214_78 L xs (d) v1 v2 s M o) (fun r M o => mp_214_106 L xs (d) M o)) q o) : mp_214_78 L xs d v1 v2 v3 M o := by
  unfold mf_214_b78 at h
  obtain ⟨d, rfl⟩ := mm_d1 (n := 1) hd
  show mm_Runs L xs (d + 1) 214 (78, [some (.ref 84), some (.int v1), some (.int v2), some (.int v3)], [], M) o
  refine mm_Runs.seq (l := [(78, .iload_n 3, 1), (79, .sipush 257, 3), (82, .iload_n 1, 1), (83, .isub, 1)]) (S2 := (84, [some (.ref 84), some (.int v1), some (.int v2), some (.int v3)], [.int ((257 : Int32) - v1), .int v3], M)) (by decide +kernel) (hO := mm_own_214) rfl ?_
  refine mm_R_ige (t := 106) rfl rfl rfl (fun hc => ?_) (fun hc => ?_)
  · replace h := mm_ip hc h
    refine mm_Runs.seq (l := [(87, .aload_n 0, 1), (88, .getfield 154, 3)]) (S2 := (91, [some (.ref 84), some (.int v1), some (.int v2), some (.int v3)], [.int (M.1 84 7)], M)) (by decide +kernel) (hO := mm_own_214) rfl ?_
    refine mm_R_zne (t := 106) rfl rfl rfl (fun hc => ?_) (fun hc => ?_)
    · replace h := mm_ip hc h
      refine mm_Runs.seq (l := [(94, .aload_n 0, 1), (95, .iload_n 2, 1)]) (S2 := (96, [some (.ref 84), some (.int v1), some (.int v2), some (.int v3)], [.int v2, .ref 84], M)) (by decide +kernel) (hO := mm_own_214) rfl ?_
      refine mm_R_call (v := mm_wi) h hA (k2 := 194) (as := [.ref 84, .int v2]) (r := []) rfl (fun _ => rfl) (fun q hq o ho => ms_194 (by omega) hq ho) (fun r1 M2 h => ?_)
      show mm_Runs L xs (d + 1) 214 (99, [some (.ref 84), some (.int v1), some (.int v2), some (.int v3)], [.int r1], M2) o
      refine mm_Runs.seq (l := [(99, .pop, 1), (100, .iinc 3 1, 3), (103, .goto (-25), 3)]) (S2 := (78, [some (.ref 84), some (.int v1), some (.int v2), some (.int (v3 + (1 : Int32)))], [], M2)) (by decide +kernel) (hO := mm_own_214) rfl ?_
      cases h
      exact (show mp_214_78 L xs (d + 1) v1 v2 (v3 + (1 : Int32)) M2 o from hA)
    · replace h := mm_iq hc h
      cases h
      exact (show mp_214_106 L xs (d + 1) M o from hA) (some (.int v1)) (some (.int v2)) (some (.int v3))
  · replace h := mm_iq hc h
    cases h
    exact (show mp_214_106 L xs (d + 1) M o from hA) (some (.int v1)) (some (.int v2)) (some (.int v3))
theorem ms_214_L78 {L : Nat} {xs : Nat → Int32} {d : Nat} (hd : 2 ≤ d) {v1 : Int32} {v2 : Int32} {v3 : Int32} {β : Type} {K : β → mm_M → mm_E → Prop} {F : (Unit) → mm_M → mm_O β} {M : mm_M} {q : (β ⊕ Nat) × mm_M} {o : mm_E} (h : mm_B (mf_214_L78 v1 v2 v3 M) F = some q) (hA : mm_A K q o) (hx : ∀ (r : (Unit)) (M2 : mm_M), F r M2 = some q → (fun r M o => mp_214_106 L xs (d) M o) r M2 o) : mp_214_78 L xs d v1 v2 v3 M o := by
  unfold mf_214_L78 at h
  exact mm_R_loop (step := (fun s M => mf_214_b78 v1 v2 s M)) (s := v3) (M := M) (P := (fun s M o => mp_214_78 L xs (d) v1 v2 s M o)) (X := (fun r M o => mp_214_106 L xs (d) M o)) h hA (fun s M q hq hA => ms_214_b78 (v1 := v1) (v2 := v2) (v3 := s) (M := M) (q := q) hd hq hA) hx
set_option maxRecDepth 8000 in
set_option maxHeartbeats 4000000 in
theorem ms_214_b0 {L : Nat} {xs : Nat → Int32} {d : Nat} (hd : 2 ≤ d) {M : mm_M} {q : (((Unit) ⊕ (Unit)) ⊕ Nat) × mm_M} {o : mm_E} (h : mf_214_b0 M = some q) (hA : mm_A (mm_K2 (fun s M o => mp_214_0 L xs (d) M o) (fun r M o => mp_214_109 L xs (d) M o)) q o) : mp_214_0 L xs d M o := by
  unfold mf_214_b0 at h
  obtain ⟨d, rfl⟩ := mm_d1 (n := 1) hd
  intro z1 z2 z3
  show mm_Runs L xs (d + 1) 214 (0, [some (.ref 84), z1, z2, z3], [], M) o
  refine mm_Runs.seq (l := [(0, .aload_n 0, 1), (1, .getfield 101, 3), (4, .aload_n 0, 1), (5, .getfield 91, 3)]) (S2 := (8, [some (.ref 84), z1, z2, z3], [.int (M.1 84 2), .int (M.1 84 5)], M)) (by decide +kernel) (hO := mm_own_214) rfl ?_
  refine mm_R_ige (t := 109) rfl rfl rfl (fun hc => ?_) (fun hc => ?_)
  · replace h := mm_ip hc h
    refine mm_Runs.seq (l := [(11, .aload_n 0, 1), (12, .getfield 154, 3)]) (S2 := (15, [some (.ref 84), z1, z2, z3], [.int (M.1 84 7)], M)) (by decide +kernel) (hO := mm_own_214) rfl ?_
    refine mm_R_zne (t := 109) rfl rfl rfl (fun hc => ?_) (fun hc => ?_)
    · replace h := mm_ip hc h
      refine mm_Runs.seq (l := [(18, .aload_n 0, 1)]) (S2 := (19, [some (.ref 84), z1, z2, z3], [.ref 84], M)) (by decide +kernel) (hO := mm_own_214) rfl ?_
      refine mm_R_call (v := mm_wi) h hA (k2 := 191) (as := [.ref 84]) (r := []) rfl (fun _ => rfl) (fun q hq o ho => ms_191 (by omega) hq ho) (fun r1 M2 h => ?_)
      show mm_Runs L xs (d + 1) 214 (22, [some (.ref 84), z1, z2, z3], [.int r1], M2) o
      refine mm_Runs.seq (l := [(22, .istore_n 1, 1), (23, .iload_n 1, 1), (24, .sipush 128, 3)]) (S2 := (27, [some (.ref 84), some (.int r1), z2, z3], [.int (128 : Int32), .int r1], M2)) (by decide +kernel) (hO := mm_own_214) rfl ?_
      refine mm_R_ige (t := 64) rfl rfl rfl (fun hc => ?_) (fun hc => ?_)
      · replace h := mm_ip hc h
        refine mm_Runs.seq (l := [(30, .iconst 0, 1), (31, .istore_n 2, 1)]) (S2 := (32, [some (.ref 84), some (.int r1), some (.int (0 : Int32)), z3], [], M2)) (by decide +kernel) (hO := mm_own_214) rfl ?_
        have hp : mp_214_32 L xs (d + 1) r1 (0 : Int32) M2 o := by
          refine ms_214_L32 hd h hA (fun r4 M3 h => ?_)
          intro y5 y6 y7
          show mm_Runs L xs (d + 1) 214 (61, [some (.ref 84), y5, y6, y7], [], M3) o
          refine mm_Runs.seq (l := [(61, .goto 45, 3), (106, .goto (-106), 3)]) (S2 := (0, [some (.ref 84), y5, y6, y7], [], M3)) (by decide +kernel) (hO := mm_own_214) rfl ?_
          cases h
          exact (show mp_214_0 L xs (d + 1) M3 o from hA) y5 y6 y7
        exact hp z3
      · replace h := mm_iq hc h
        refine mm_Runs.seq (l := [(64, .iload_n 1, 1), (65, .sipush 128, 3)]) (S2 := (68, [some (.ref 84), some (.int r1), z2, z3], [.int (128 : Int32), .int r1], M2)) (by decide +kernel) (hO := mm_own_214) rfl ?_
        refine mm_R_ile (t := 106) rfl rfl rfl (fun hc => ?_) (fun hc => ?_)
        · replace h := mm_ip hc h
          refine mm_Runs.seq (l := [(71, .aload_n 0, 1)]) (S2 := (72, [some (.ref 84), some (.int r1), z2, z3], [.ref 84], M2)) (by decide +kernel) (hO := mm_own_214) rfl ?_
          refine mm_R_call (v := mm_wi) h hA (k2 := 191) (as := [.ref 84]) (r := []) rfl (fun _ => rfl) (fun q hq o ho => ms_191 (by omega) hq ho) (fun r8 M9 h => ?_)
          show mm_Runs L xs (d + 1) 214 (75, [some (.ref 84), some (.int r1), z2, z3], [.int r8], M9) o
          refine mm_Runs.seq (l := [(75, .istore_n 2, 1), (76, .iconst 0, 1), (77, .istore_n 3, 1)]) (S2 := (78, [some (.ref 84), some (.int r1), some (.int r8), some (.int (0 : Int32))], [], M9)) (by decide +kernel) (hO := mm_own_214) rfl ?_
          have hp : mp_214_78 L xs (d + 1) r1 r8 (0 : Int32) M9 o := by
            refine ms_214_L78 hd h hA (fun r11 M10 h => ?_)
            intro y12 y13 y14
            show mm_Runs L xs (d + 1) 214 (106, [some (.ref 84), y12, y13, y14], [], M10) o
            refine mm_Runs.seq (l := [(106, .goto (-106), 3)]) (S2 := (0, [some (.ref 84), y12, y13, y14], [], M10)) (by decide +kernel) (hO := mm_own_214) rfl ?_
            cases h
            exact (show mp_214_0 L xs (d + 1) M10 o from hA) y12 y13 y14
          exact hp
        · replace h := mm_iq hc h
          refine mm_Runs.seq (l := [(106, .goto (-106), 3)]) (S2 := (0, [some (.ref 84), some (.int r1), z2, z3], [], M2)) (by decide +kernel) (hO := mm_own_214) rfl ?_
          cases h
          exact (show mp_214_0 L xs (d + 1) M2 o from hA) (some (.int r1)) z2 z3
    · replace h := mm_iq hc h
      cases h
      exact (show mp_214_109 L xs (d + 1) M o from hA) (some (.ref 84)) z1 z2 z3
  · replace h := mm_iq hc h
    cases h
    exact (show mp_214_109 L xs (d + 1) M o from hA) (some (.ref 84)) z1 z2 z3
theorem ms_214_L0 {L : Nat} {xs : Nat → Int32} {d : Nat} (hd : 2 ≤ d) {β : Type} {K : β → mm_M → mm_E → Prop} {F : (Unit) → mm_M → mm_O β} {M : mm_M} {q : (β ⊕ Nat) × mm_M} {o : mm_E} (h : mm_B (mf_214_L0 () M) F = some q) (hA : mm_A K q o) (hx : ∀ (r : (Unit)) (M2 : mm_M), F r M2 = some q → (fun r M o => mp_214_109 L xs (d) M o) r M2 o) : mp_214_0 L xs d M o := by
  unfold mf_214_L0 at h
  exact mm_R_loop (step := (fun s M => mf_214_b0 M)) (s := ()) (M := M) (P := (fun s M o => mp_214_0 L xs (d) M o)) (X := (fun r M o => mp_214_109 L xs (d) M o)) h hA (fun s M q hq hA => ms_214_b0 (M := M) (q := q) hd hq hA) hx
set_option maxRecDepth 8000 in
set_option maxHeartbeats 4000000 in
theorem ms_214 {L : Nat} {xs : Nat → Int32} {d : Nat} (hd : 2 ≤ d) {M : mm_M} {q : (Unit ⊕ Nat) × mm_M} {o : mm_E} (h : mf_214 M = some q) (hA : mm_A (mm_Kr mm_wv) q o) : mm_Runs L xs d 214 (0, mm_ent (mm_ml 214) [.ref 84], [], M) o := by
  unfold mf_214 at h
  obtain ⟨d, rfl⟩ := mm_d1 (n := 1) hd
  show mm_Runs L xs (d + 1) 214 (0, [some (.ref 84), none, none, none], [], M) o
  have hp : mp_214_0 L xs (d + 1) M o := by
    refine ms_214_L0 hd h hA (fun r2 M1 h => ?_)
    intro y3 y4 y5 y6
    show mm_Runs L xs (d + 1) 214 (109, [y3, y4, y5, y6], [], M1) o
    cases h
    exact mm_R_retv rfl rfl hA
  exact hp none none none
-- 197: PlainPacksModel.bit()I (depth 2)
theorem mm_own_197 : mm_own 197 = 12 := rfl
def mp_197_21 (L : Nat) (xs : Nat → Int32) (d : Nat) (M : mm_M) (o : mm_E) : Prop := mm_Runs L xs d 197 (21, [some (.ref 84)], [], M) o
set_option maxRecDepth 8000 in
set_option maxHeartbeats 4000000 in
theorem ms_197_j21 {L : Nat} {xs : Nat → Int32} {d : Nat} (hd : 2 ≤ d) {M : mm_M} {q : (Int32 ⊕ Nat) × mm_M} {o : mm_E} (h : mf_197_j21 M = some q) (hA : mm_A (mm_Kr mm_wi) q o) : mp_197_21 L xs d M o := by
  unfold mf_197_j21 at h
  obtain ⟨d, rfl⟩ := mm_d1 (n := 1) hd
  show mm_Runs L xs (d + 1) 197 (21, [some (.ref 84)], [], M) o
  refine mm_Runs.seq (l := [(21, .aload_n 0, 1), (22, .getfield 154, 3)]) (S2 := (25, [some (.ref 84)], [.int (M.1 84 7)], M)) (by decide +kernel) (hO := mm_own_197) rfl ?_
  refine mm_R_zeq (t := 30) rfl rfl rfl (fun hc => ?_) (fun hc => ?_)
  · replace h := mm_ip hc h
    refine mm_Runs.seq (l := [(30, .aload_n 0, 1), (31, .dup, 1), (32, .getfield 172, 3), (35, .iconst 1, 1), (36, .isub, 1), (37, .putfield 172, 3), (40, .aload_n 0, 1), (41, .getfield 178, 3)]) (S2 := (44, [some (.ref 84)], [.int (M.1 84 13)], (mm_pi M 84 15 ((M.1 84 15) - (1 : Int32))))) (by decide +kernel) (hO := mm_own_197) rfl ?_
    refine mm_R_zeq (t := 61) rfl rfl rfl (fun hc => ?_) (fun hc => ?_)
    · replace h := mm_ip hc h
      refine mm_Runs.seq (l := [(61, .aload_n 0, 1), (62, .getfield 175, 3), (65, .bipush 7, 2), (67, .aload_n 0, 1), (68, .getfield 172, 3), (71, .isub, 1), (72, .ishr, 1), (73, .iconst 1, 1), (74, .iand, 1)]) (S2 := (75, [some (.ref 84)], [.int ((mm_shr (M.1 84 14) ((7 : Int32) - ((M.1 84 15) - (1 : Int32)))) &&& (1 : Int32))], (mm_pi M 84 15 ((M.1 84 15) - (1 : Int32))))) (by decide +kernel) (hO := mm_own_197) rfl ?_
      cases h
      exact mm_R_reti rfl rfl hA
    · replace h := mm_iq hc h
      refine mm_Runs.seq (l := [(47, .aload_n 0, 1), (48, .getfield 175, 3), (51, .aload_n 0, 1), (52, .getfield 172, 3), (55, .ishr, 1), (56, .iconst 1, 1), (57, .iand, 1), (58, .goto 17, 3)]) (S2 := (75, [some (.ref 84)], [.int ((mm_shr (M.1 84 14) ((M.1 84 15) - (1 : Int32))) &&& (1 : Int32))], (mm_pi M 84 15 ((M.1 84 15) - (1 : Int32))))) (by decide +kernel) (hO := mm_own_197) rfl ?_
      cases h
      exact mm_R_reti rfl rfl hA
  · replace h := mm_iq hc h
    refine mm_Runs.seq (l := [(28, .iconst 0, 1)]) (S2 := (29, [some (.ref 84)], [.int (0 : Int32)], M)) (by decide +kernel) (hO := mm_own_197) rfl ?_
    cases h
    exact mm_R_reti rfl rfl hA
set_option maxRecDepth 8000 in
set_option maxHeartbeats 4000000 in
theorem ms_197 {L : Nat} {xs : Nat → Int32} {d : Nat} (hd : 2 ≤ d) {M : mm_M} {q : (Int32 ⊕ Nat) × mm_M} {o : mm_E} (h : mf_197 M = some q) (hA : mm_A (mm_Kr mm_wi) q o) : mm_Runs L xs d 197 (0, mm_ent (mm_ml 197) [.ref 84], [], M) o := by
  unfold mf_197 at h
  obtain ⟨d, rfl⟩ := mm_d1 (n := 1) hd
  show mm_Runs L xs (d + 1) 197 (0, [some (.ref 84)], [], M) o
  refine mm_Runs.seq (l := [(0, .aload_n 0, 1), (1, .getfield 172, 3)]) (S2 := (4, [some (.ref 84)], [.int (M.1 84 15)], M)) (by decide +kernel) (hO := mm_own_197) rfl ?_
  refine mm_R_zne (t := 21) rfl rfl rfl (fun hc => ?_) (fun hc => ?_)
  · replace h := mm_ip hc h
    refine mm_Runs.seq (l := [(7, .aload_n 0, 1), (8, .aload_n 0, 1)]) (S2 := (9, [some (.ref 84)], [.ref 84, .ref 84], M)) (by decide +kernel) (hO := mm_own_197) rfl ?_
    refine mm_R_call (v := mm_wi) h hA (k2 := 191) (as := [.ref 84]) (r := [.ref 84]) rfl (fun _ => rfl) (fun q hq o ho => ms_191 (by omega) hq ho) (fun r1 M2 h => ?_)
    show mm_Runs L xs (d + 1) 197 (12, [some (.ref 84)], [.int r1, .ref 84], M2) o
    refine mm_Runs.seq (l := [(12, .putfield 175, 3), (15, .aload_n 0, 1), (16, .bipush 8, 2), (18, .putfield 172, 3)]) (S2 := (21, [some (.ref 84)], [], (mm_pi (mm_pi M2 84 14 r1) 84 15 (8 : Int32)))) (by decide +kernel) (hO := mm_own_197) rfl ?_
    exact (ms_197_j21 hd h hA : mp_197_21 L xs (d + 1) (mm_pi (mm_pi M2 84 14 r1) 84 15 (8 : Int32)) o)
  · replace h := mm_iq hc h
    exact (ms_197_j21 hd h hA : mp_197_21 L xs (d + 1) M o)
-- 198: PlainPacksModel.number(I)J (depth 3)
theorem mm_own_198 : mm_own 198 = 12 := rfl
def mp_198_5 (L : Nat) (xs : Nat → Int32) (d : Nat) (v1 : Int32) (v2 : Int64) (v4 : Int32) (M : mm_M) (o : mm_E) : Prop := ∀ z3 z5 z6 : Option Value, mm_Runs L xs d 198 (5, [some (.ref 84), some (.int v1), some (.long v2), z3, some (.int v4), z5, z6], [], M) o
def mp_198_55 (L : Nat) (xs : Nat → Int32) (d : Nat) (v2 : Int64) (M : mm_M) (o : mm_E) : Prop := ∀ z0 z1 z3 z4 z5 z6 : Option Value, mm_Runs L xs d 198 (55, [z0, z1, some (.long v2), z3, z4, z5, z6], [], M) o
set_option maxRecDepth 8000 in
set_option maxHeartbeats 4000000 in
theorem ms_198_b5 {L : Nat} {xs : Nat → Int32} {d : Nat} (hd : 3 ≤ d) {v1 : Int32} {v2 : Int64} {v4 : Int32} {M : mm_M} {q : (((Int64 × Int32) ⊕ (Int64)) ⊕ Nat) × mm_M} {o : mm_E} (h : mf_198_b5 v1 v2 v4 M = some q) (hA : mm_A (mm_K2 (fun s M o => mp_198_5 L xs (d) v1 s.1 s.2 M o) (fun r M o => mp_198_55 L xs (d) r M o)) q o) : mp_198_5 L xs d v1 v2 v4 M o := by
  unfold mf_198_b5 at h
  obtain ⟨d, rfl⟩ := mm_d1 (n := 2) hd
  intro z3 z5 z6
  show mm_Runs L xs (d + 1) 198 (5, [some (.ref 84), some (.int v1), some (.long v2), z3, some (.int v4), z5, z6], [], M) o
  refine mm_Runs.seq (l := [(5, .iload 4, 2), (7, .iload_n 1, 1)]) (S2 := (8, [some (.ref 84), some (.int v1), some (.long v2), z3, some (.int v4), z5, z6], [.int v1, .int v4], M)) (by decide +kernel) (hO := mm_own_198) rfl ?_
  refine mm_R_ige (t := 55) rfl rfl rfl (fun hc => ?_) (fun hc => ?_)
  · replace h := mm_ip hc h
    refine mm_Runs.seq (l := [(11, .aload_n 0, 1), (12, .getfield 154, 3)]) (S2 := (15, [some (.ref 84), some (.int v1), some (.long v2), z3, some (.int v4), z5, z6], [.int (M.1 84 7)], M)) (by decide +kernel) (hO := mm_own_198) rfl ?_
    refine mm_R_zne (t := 55) rfl rfl rfl (fun hc => ?_) (fun hc => ?_)
    · replace h := mm_ip hc h
      refine mm_Runs.seq (l := [(18, .aload_n 0, 1)]) (S2 := (19, [some (.ref 84), some (.int v1), some (.long v2), z3, some (.int v4), z5, z6], [.ref 84], M)) (by decide +kernel) (hO := mm_own_198) rfl ?_
      refine mm_R_call (v := mm_wi) h hA (k2 := 197) (as := [.ref 84]) (r := []) rfl (fun _ => rfl) (fun q hq o ho => ms_197 (by omega) hq ho) (fun r1 M2 h => ?_)
      show mm_Runs L xs (d + 1) 198 (22, [some (.ref 84), some (.int v1), some (.long v2), z3, some (.int v4), z5, z6], [.int r1], M2) o
      refine mm_Runs.seq (l := [(22, .i2l, 1), (23, .lstore 5, 2), (25, .aload_n 0, 1), (26, .getfield 178, 3)]) (S2 := (29, [some (.ref 84), some (.int v1), some (.long v2), z3, some (.int v4), some (.long r1.toInt64), none], [.int (M2.1 84 13)], M2)) (by decide +kernel) (hO := mm_own_198) rfl ?_
      refine mm_R_zeq (t := 41) rfl rfl rfl (fun hc => ?_) (fun hc => ?_)
      · replace h := mm_ip hc h
        refine mm_Runs.seq (l := [(41, .lload_n 2, 1), (42, .lload 5, 2), (44, .iload 4, 2), (46, .lshl, 1), (47, .lor, 1), (48, .lstore_n 2, 1), (49, .iinc 4 1, 3), (52, .goto (-47), 3)]) (S2 := (5, [some (.ref 84), some (.int v1), some (.long (v2 ||| (mm_lshl r1.toInt64 v4))), none, some (.int (v4 + (1 : Int32))), some (.long r1.toInt64), none], [], M2)) (by decide +kernel) (hO := mm_own_198) rfl ?_
        cases h
        exact (show mp_198_5 L xs (d + 1) v1 (v2 ||| (mm_lshl r1.toInt64 v4)) (v4 + (1 : Int32)) M2 o from hA) none (some (.long r1.toInt64)) none
      · replace h := mm_iq hc h
        refine mm_Runs.seq (l := [(32, .lload_n 2, 1), (33, .iconst 1, 1), (34, .lshl, 1), (35, .lload 5, 2), (37, .lor, 1), (38, .goto 10, 3), (48, .lstore_n 2, 1), (49, .iinc 4 1, 3), (52, .goto (-47), 3)]) (S2 := (5, [some (.ref 84), some (.int v1), some (.long ((mm_lshl v2 (1 : Int32)) ||| r1.toInt64)), none, some (.int (v4 + (1 : Int32))), some (.long r1.toInt64), none], [], M2)) (by decide +kernel) (hO := mm_own_198) rfl ?_
        cases h
        exact (show mp_198_5 L xs (d + 1) v1 ((mm_lshl v2 (1 : Int32)) ||| r1.toInt64) (v4 + (1 : Int32)) M2 o from hA) none (some (.long r1.toInt64)) none
    · replace h := mm_iq hc h
      cases h
      exact (show mp_198_55 L xs (d + 1) v2 M o from hA) (some (.ref 84)) (some (.int v1)) z3 (some (.int v4)) z5 z6
  · replace h := mm_iq hc h
    cases h
    exact (show mp_198_55 L xs (d + 1) v2 M o from hA) (some (.ref 84)) (some (.int v1)) z3 (some (.int v4)) z5 z6
theorem ms_198_L5 {L : Nat} {xs : Nat → Int32} {d : Nat} (hd : 3 ≤ d) {v1 : Int32} {v2 : Int64} {v4 : Int32} {β : Type} {K : β → mm_M → mm_E → Prop} {F : (Int64) → mm_M → mm_O β} {M : mm_M} {q : (β ⊕ Nat) × mm_M} {o : mm_E} (h : mm_B (mf_198_L5 v1 (v2, v4) M) F = some q) (hA : mm_A K q o) (hx : ∀ (r : (Int64)) (M2 : mm_M), F r M2 = some q → (fun r M o => mp_198_55 L xs (d) r M o) r M2 o) : mp_198_5 L xs d v1 v2 v4 M o := by
  unfold mf_198_L5 at h
  exact mm_R_loop (step := (fun s M => mf_198_b5 v1 s.1 s.2 M)) (s := (v2, v4)) (M := M) (P := (fun s M o => mp_198_5 L xs (d) v1 s.1 s.2 M o)) (X := (fun r M o => mp_198_55 L xs (d) r M o)) h hA (fun s M q hq hA => ms_198_b5 (v1 := v1) (v2 := s.1) (v4 := s.2) (M := M) (q := q) hd hq hA) hx
set_option maxRecDepth 8000 in
set_option maxHeartbeats 4000000 in
theorem ms_198 {L : Nat} {xs : Nat → Int32} {d : Nat} (hd : 3 ≤ d) {v1 : Int32} {M : mm_M} {q : (Int64 ⊕ Nat) × mm_M} {o : mm_E} (h : mf_198 v1 M = some q) (hA : mm_A (mm_Kr mm_wl) q o) : mm_Runs L xs d 198 (0, mm_ent (mm_ml 198) [.ref 84, .int v1], [], M) o := by
  unfold mf_198 at h
  obtain ⟨d, rfl⟩ := mm_d1 (n := 2) hd
  show mm_Runs L xs (d + 1) 198 (0, [some (.ref 84), some (.int v1), none, none, none, none, none], [], M) o
  refine mm_Runs.seq (l := [(0, .lconst 0, 1), (1, .lstore_n 2, 1), (2, .iconst 0, 1), (3, .istore 4, 2)]) (S2 := (5, [some (.ref 84), some (.int v1), some (.long (0 : Int64)), none, some (.int (0 : Int32)), none, none], [], M)) (by decide +kernel) (hO := mm_own_198) rfl ?_
  have hp : mp_198_5 L xs (d + 1) v1 (0 : Int64) (0 : Int32) M o := by
    refine ms_198_L5 hd h hA (fun r2 M1 h => ?_)
    intro y3 y4 y5 y6 y7 y8
    show mm_Runs L xs (d + 1) 198 (55, [y3, y4, some (.long r2), y5, y6, y7, y8], [], M1) o
    refine mm_Runs.seq (l := [(55, .lload_n 2, 1)]) (S2 := (56, [y3, y4, some (.long r2), y5, y6, y7, y8], [.long r2], M1)) (by decide +kernel) (hO := mm_own_198) rfl ?_
    cases h
    exact mm_R_retl rfl rfl hA
  exact hp none none none
-- 193: PlainPacksModel.low(I)J (depth 2)
theorem mm_own_193 : mm_own 193 = 12 := rfl
def mp_193_5 (L : Nat) (xs : Nat → Int32) (d : Nat) (v1 : Int32) (v2 : Int64) (v4 : Int32) (M : mm_M) (o : mm_E) : Prop := ∀ z3 : Option Value, mm_Runs L xs d 193 (5, [some (.ref 84), some (.int v1), some (.long v2), z3, some (.int v4)], [], M) o
def mp_193_31 (L : Nat) (xs : Nat → Int32) (d : Nat) (v2 : Int64) (M : mm_M) (o : mm_E) : Prop := ∀ z0 z1 z3 z4 : Option Value, mm_Runs L xs d 193 (31, [z0, z1, some (.long v2), z3, z4], [], M) o
set_option maxRecDepth 8000 in
set_option maxHeartbeats 4000000 in
theorem ms_193_b5 {L : Nat} {xs : Nat → Int32} {d : Nat} (hd : 2 ≤ d) {v1 : Int32} {v2 : Int64} {v4 : Int32} {M : mm_M} {q : (((Int64 × Int32) ⊕ (Int64)) ⊕ Nat) × mm_M} {o : mm_E} (h : mf_193_b5 v1 v2 v4 M = some q) (hA : mm_A (mm_K2 (fun s M o => mp_193_5 L xs (d) v1 s.1 s.2 M o) (fun r M o => mp_193_31 L xs (d) r M o)) q o) : mp_193_5 L xs d v1 v2 v4 M o := by
  unfold mf_193_b5 at h
  obtain ⟨d, rfl⟩ := mm_d1 (n := 1) hd
  intro z3
  show mm_Runs L xs (d + 1) 193 (5, [some (.ref 84), some (.int v1), some (.long v2), z3, some (.int v4)], [], M) o
  refine mm_Runs.seq (l := [(5, .iload 4, 2), (7, .iload_n 1, 1)]) (S2 := (8, [some (.ref 84), some (.int v1), some (.long v2), z3, some (.int v4)], [.int v1, .int v4], M)) (by decide +kernel) (hO := mm_own_193) rfl ?_
  refine mm_R_ige (t := 31) rfl rfl rfl (fun hc => ?_) (fun hc => ?_)
  · replace h := mm_ip hc h
    refine mm_Runs.seq (l := [(11, .lload_n 2, 1), (12, .aload_n 0, 1)]) (S2 := (13, [some (.ref 84), some (.int v1), some (.long v2), z3, some (.int v4)], [.ref 84, .long v2], M)) (by decide +kernel) (hO := mm_own_193) rfl ?_
    refine mm_R_call (v := mm_wi) h hA (k2 := 191) (as := [.ref 84]) (r := [.long v2]) rfl (fun _ => rfl) (fun q hq o ho => ms_191 (by omega) hq ho) (fun r1 M2 h => ?_)
    show mm_Runs L xs (d + 1) 193 (16, [some (.ref 84), some (.int v1), some (.long v2), z3, some (.int v4)], [.int r1, .long v2], M2) o
    refine mm_Runs.seq (l := [(16, .i2l, 1), (17, .bipush 8, 2), (19, .iload 4, 2), (21, .imul, 1), (22, .lshl, 1), (23, .lor, 1), (24, .lstore_n 2, 1), (25, .iinc 4 1, 3), (28, .goto (-23), 3)]) (S2 := (5, [some (.ref 84), some (.int v1), some (.long (v2 ||| (mm_lshl r1.toInt64 ((8 : Int32) * v4)))), none, some (.int (v4 + (1 : Int32)))], [], M2)) (by decide +kernel) (hO := mm_own_193) rfl ?_
    cases h
    exact (show mp_193_5 L xs (d + 1) v1 (v2 ||| (mm_lshl r1.toInt64 ((8 : Int32) * v4))) (v4 + (1 : Int32)) M2 o from hA) none
  · replace h := mm_iq hc h
    cases h
    exact (show mp_193_31 L xs (d + 1) v2 M o from hA) (some (.ref 84)) (some (.int v1)) z3 (some (.int v4))
theorem ms_193_L5 {L : Nat} {xs : Nat → Int32} {d : Nat} (hd : 2 ≤ d) {v1 : Int32} {v2 : Int64} {v4 : Int32} {β : Type} {K : β → mm_M → mm_E → Prop} {F : (Int64) → mm_M → mm_O β} {M : mm_M} {q : (β ⊕ Nat) × mm_M} {o : mm_E} (h : mm_B (mf_193_L5 v1 (v2, v4) M) F = some q) (hA : mm_A K q o) (hx : ∀ (r : (Int64)) (M2 : mm_M), F r M2 = some q → (fun r M o => mp_193_31 L xs (d) r M o) r M2 o) : mp_193_5 L xs d v1 v2 v4 M o := by
  unfold mf_193_L5 at h
  exact mm_R_loop (step := (fun s M => mf_193_b5 v1 s.1 s.2 M)) (s := (v2, v4)) (M := M) (P := (fun s M o => mp_193_5 L xs (d) v1 s.1 s.2 M o)) (X := (fun r M o => mp_193_31 L xs (d) r M o)) h hA (fun s M q hq hA => ms_193_b5 (v1 := v1) (v2 := s.1) (v4 := s.2) (M := M) (q := q) hd hq hA) hx
set_option maxRecDepth 8000 in
set_option maxHeartbeats 4000000 in
theorem ms_193 {L : Nat} {xs : Nat → Int32} {d : Nat} (hd : 2 ≤ d) {v1 : Int32} {M : mm_M} {q : (Int64 ⊕ Nat) × mm_M} {o : mm_E} (h : mf_193 v1 M = some q) (hA : mm_A (mm_Kr mm_wl) q o) : mm_Runs L xs d 193 (0, mm_ent (mm_ml 193) [.ref 84, .int v1], [], M) o := by
  unfold mf_193 at h
  obtain ⟨d, rfl⟩ := mm_d1 (n := 1) hd
  show mm_Runs L xs (d + 1) 193 (0, [some (.ref 84), some (.int v1), none, none, none], [], M) o
  refine mm_Runs.seq (l := [(0, .lconst 0, 1), (1, .lstore_n 2, 1), (2, .iconst 0, 1), (3, .istore 4, 2)]) (S2 := (5, [some (.ref 84), some (.int v1), some (.long (0 : Int64)), none, some (.int (0 : Int32))], [], M)) (by decide +kernel) (hO := mm_own_193) rfl ?_
  have hp : mp_193_5 L xs (d + 1) v1 (0 : Int64) (0 : Int32) M o := by
    refine ms_193_L5 hd h hA (fun r2 M1 h => ?_)
    intro y3 y4 y5 y6
    show mm_Runs L xs (d + 1) 193 (31, [y3, y4, some (.long r2), y5, y6], [], M1) o
    refine mm_Runs.seq (l := [(31, .lload_n 2, 1)]) (S2 := (32, [y3, y4, some (.long r2), y5, y6], [.long r2], M1)) (by decide +kernel) (hO := mm_own_193) rfl ?_
    cases h
    exact mm_R_retl rfl rfl hA
  exact hp none
-- 195: PlainPacksModel.pass(J)V (depth 2)
theorem mm_own_195 : mm_own 195 = 12 := rfl
def mp_195_2 (L : Nat) (xs : Nat → Int32) (d : Nat) (v1 : Int64) (v3 : Int64) (M : mm_M) (o : mm_E) : Prop := ∀ z2 z4 z5 : Option Value, mm_Runs L xs d 195 (2, [some (.ref 84), some (.long v1), z2, some (.long v3), z4, z5], [], M) o
def mp_195_58 (L : Nat) (xs : Nat → Int32) (d : Nat) (M : mm_M) (o : mm_E) : Prop := ∀ z0 z1 z2 z3 z4 z5 : Option Value, mm_Runs L xs d 195 (58, [z0, z1, z2, z3, z4, z5], [], M) o
set_option maxRecDepth 8000 in
set_option maxHeartbeats 4000000 in
theorem ms_195_b2 {L : Nat} {xs : Nat → Int32} {d : Nat} (hd : 2 ≤ d) {v1 : Int64} {v3 : Int64} {M : mm_M} {q : (((Int64) ⊕ (Unit)) ⊕ Nat) × mm_M} {o : mm_E} (h : mf_195_b2 v1 v3 M = some q) (hA : mm_A (mm_K2 (fun s M o => mp_195_2 L xs (d) v1 s M o) (fun r M o => mp_195_58 L xs (d) M o)) q o) : mp_195_2 L xs d v1 v3 M o := by
  unfold mf_195_b2 at h
  obtain ⟨d, rfl⟩ := mm_d1 (n := 1) hd
  intro z2 z4 z5
  show mm_Runs L xs (d + 1) 195 (2, [some (.ref 84), some (.long v1), z2, some (.long v3), z4, z5], [], M) o
  refine mm_Runs.seq (l := [(2, .lload_n 3, 1), (3, .lload_n 1, 1)]) (S2 := (4, [some (.ref 84), some (.long v1), z2, some (.long v3), z4, z5], [.long v1, .long v3], M)) (by decide +kernel) (hO := mm_own_195) rfl ?_
  refine mm_R_lge (t := 58) rfl rfl rfl rfl (fun hc => ?_) (fun hc => ?_)
  · replace h := mm_ip hc h
    refine mm_Runs.seq (l := [(8, .aload_n 0, 1), (9, .getfield 154, 3)]) (S2 := (12, [some (.ref 84), some (.long v1), z2, some (.long v3), z4, z5], [.int (M.1 84 7)], M)) (by decide +kernel) (hO := mm_own_195) rfl ?_
    refine mm_R_zne (t := 58) rfl rfl rfl (fun hc => ?_) (fun hc => ?_)
    · replace h := mm_ip hc h
      refine mm_Runs.seq (l := [(15, .aload_n 0, 1)]) (S2 := (16, [some (.ref 84), some (.long v1), z2, some (.long v3), z4, z5], [.ref 84], M)) (by decide +kernel) (hO := mm_own_195) rfl ?_
      refine mm_R_call (v := mm_wi) h hA (k2 := 191) (as := [.ref 84]) (r := []) rfl (fun _ => rfl) (fun q hq o ho => ms_191 (by omega) hq ho) (fun r1 M2 h => ?_)
      show mm_Runs L xs (d + 1) 195 (19, [some (.ref 84), some (.long v1), z2, some (.long v3), z4, z5], [.int r1], M2) o
      refine mm_Runs.seq (l := [(19, .istore 5, 2), (21, .aload_n 0, 1), (22, .dup, 1), (23, .getfield 104, 3), (26, .aload_n 0, 1), (27, .getfield 154, 3)]) (S2 := (30, [some (.ref 84), some (.long v1), z2, some (.long v3), (mm_no2 z4), some (.int r1)], [.int (M2.1 84 7), .int (M2.1 84 8), .ref 84], M2)) (by decide +kernel) (hO := mm_own_195) rfl ?_
      refine mm_R_zne (t := 46) rfl rfl rfl (fun hc => ?_) (fun hc => ?_)
      · replace h := mm_ip hc h
        refine mm_Runs.seq (l := [(33, .aload_n 0, 1), (34, .iload 5, 2)]) (S2 := (36, [some (.ref 84), some (.long v1), z2, some (.long v3), (mm_no2 z4), some (.int r1)], [.int r1, .ref 84, .int (M2.1 84 8), .ref 84], M2)) (by decide +kernel) (hO := mm_own_195) rfl ?_
        refine mm_R_call (v := mm_wi) h hA (k2 := 194) (as := [.ref 84, .int r1]) (r := [.int (M2.1 84 8), .ref 84]) rfl (fun _ => rfl) (fun q hq o ho => ms_194 (by omega) hq ho) (fun r3 M4 h => ?_)
        show mm_Runs L xs (d + 1) 195 (39, [some (.ref 84), some (.long v1), z2, some (.long v3), (mm_no2 z4), some (.int r1)], [.int r3, .int (M2.1 84 8), .ref 84], M4) o
        refine mm_R_zeq (t := 46) rfl rfl rfl (fun hc => ?_) (fun hc => ?_)
        · replace h := mm_ip hc h
          refine mm_Runs.seq (l := [(46, .iconst 0, 1), (47, .iadd, 1), (48, .putfield 104, 3), (51, .lload_n 3, 1), (52, .lconst 1, 1), (53, .ladd, 1), (54, .lstore_n 3, 1), (55, .goto (-53), 3)]) (S2 := (2, [some (.ref 84), some (.long v1), (mm_no2 z2), some (.long (v3 + (1 : Int64))), none, some (.int r1)], [], (mm_pi M4 84 8 ((M2.1 84 8) + (0 : Int32))))) (by decide +kernel) (hO := mm_own_195) rfl ?_
          cases h
          exact (show mp_195_2 L xs (d + 1) v1 (v3 + (1 : Int64)) (mm_pi M4 84 8 ((M2.1 84 8) + (0 : Int32))) o from hA) ((mm_no2 z2)) none (some (.int r1))
        · replace h := mm_iq hc h
          refine mm_Runs.seq (l := [(42, .iconst 1, 1), (43, .goto 4, 3), (47, .iadd, 1), (48, .putfield 104, 3), (51, .lload_n 3, 1), (52, .lconst 1, 1), (53, .ladd, 1), (54, .lstore_n 3, 1), (55, .goto (-53), 3)]) (S2 := (2, [some (.ref 84), some (.long v1), (mm_no2 z2), some (.long (v3 + (1 : Int64))), none, some (.int r1)], [], (mm_pi M4 84 8 ((M2.1 84 8) + (1 : Int32))))) (by decide +kernel) (hO := mm_own_195) rfl ?_
          cases h
          exact (show mp_195_2 L xs (d + 1) v1 (v3 + (1 : Int64)) (mm_pi M4 84 8 ((M2.1 84 8) + (1 : Int32))) o from hA) ((mm_no2 z2)) none (some (.int r1))
      · replace h := mm_iq hc h
        refine mm_Runs.seq (l := [(46, .iconst 0, 1), (47, .iadd, 1), (48, .putfield 104, 3), (51, .lload_n 3, 1), (52, .lconst 1, 1), (53, .ladd, 1), (54, .lstore_n 3, 1), (55, .goto (-53), 3)]) (S2 := (2, [some (.ref 84), some (.long v1), (mm_no2 z2), some (.long (v3 + (1 : Int64))), none, some (.int r1)], [], (mm_pi M2 84 8 ((M2.1 84 8) + (0 : Int32))))) (by decide +kernel) (hO := mm_own_195) rfl ?_
        cases h
        exact (show mp_195_2 L xs (d + 1) v1 (v3 + (1 : Int64)) (mm_pi M2 84 8 ((M2.1 84 8) + (0 : Int32))) o from hA) ((mm_no2 z2)) none (some (.int r1))
    · replace h := mm_iq hc h
      cases h
      exact (show mp_195_58 L xs (d + 1) M o from hA) (some (.ref 84)) (some (.long v1)) z2 (some (.long v3)) z4 z5
  · replace h := mm_iq hc h
    cases h
    exact (show mp_195_58 L xs (d + 1) M o from hA) (some (.ref 84)) (some (.long v1)) z2 (some (.long v3)) z4 z5
theorem ms_195_L2 {L : Nat} {xs : Nat → Int32} {d : Nat} (hd : 2 ≤ d) {v1 : Int64} {v3 : Int64} {β : Type} {K : β → mm_M → mm_E → Prop} {F : (Unit) → mm_M → mm_O β} {M : mm_M} {q : (β ⊕ Nat) × mm_M} {o : mm_E} (h : mm_B (mf_195_L2 v1 v3 M) F = some q) (hA : mm_A K q o) (hx : ∀ (r : (Unit)) (M2 : mm_M), F r M2 = some q → (fun r M o => mp_195_58 L xs (d) M o) r M2 o) : mp_195_2 L xs d v1 v3 M o := by
  unfold mf_195_L2 at h
  exact mm_R_loop (step := (fun s M => mf_195_b2 v1 s M)) (s := v3) (M := M) (P := (fun s M o => mp_195_2 L xs (d) v1 s M o)) (X := (fun r M o => mp_195_58 L xs (d) M o)) h hA (fun s M q hq hA => ms_195_b2 (v1 := v1) (v3 := s) (M := M) (q := q) hd hq hA) hx
set_option maxRecDepth 8000 in
set_option maxHeartbeats 4000000 in
theorem ms_195 {L : Nat} {xs : Nat → Int32} {d : Nat} (hd : 2 ≤ d) {v1 : Int64} {M : mm_M} {q : (Unit ⊕ Nat) × mm_M} {o : mm_E} (h : mf_195 v1 M = some q) (hA : mm_A (mm_Kr mm_wv) q o) : mm_Runs L xs d 195 (0, mm_ent (mm_ml 195) [.ref 84, .long v1], [], M) o := by
  unfold mf_195 at h
  obtain ⟨d, rfl⟩ := mm_d1 (n := 1) hd
  show mm_Runs L xs (d + 1) 195 (0, [some (.ref 84), some (.long v1), none, none, none, none], [], M) o
  refine mm_Runs.seq (l := [(0, .lconst 0, 1), (1, .lstore_n 3, 1)]) (S2 := (2, [some (.ref 84), some (.long v1), none, some (.long (0 : Int64)), none, none], [], M)) (by decide +kernel) (hO := mm_own_195) rfl ?_
  have hp : mp_195_2 L xs (d + 1) v1 (0 : Int64) M o := by
    refine ms_195_L2 hd h hA (fun r2 M1 h => ?_)
    intro y3 y4 y5 y6 y7 y8
    show mm_Runs L xs (d + 1) 195 (58, [y3, y4, y5, y6, y7, y8], [], M1) o
    cases h
    exact mm_R_retv rfl rfl hA
  exact hp none none none
-- 204: PlainPacksModel.stored()V (depth 3)
theorem mm_own_204 : mm_own 204 = 12 := rfl
def mp_204_38 (L : Nat) (xs : Nat → Int32) (d : Nat) (v1 : Int32) (M : mm_M) (o : mm_E) : Prop := ∀ z2 : Option Value, mm_Runs L xs d 204 (38, [some (.ref 84), some (.int v1), z2], [], M) o
set_option maxRecDepth 8000 in
set_option maxHeartbeats 4000000 in
theorem ms_204_j38 {L : Nat} {xs : Nat → Int32} {d : Nat} (hd : 3 ≤ d) {v1 : Int32} {M : mm_M} {q : (Unit ⊕ Nat) × mm_M} {o : mm_E} (h : mf_204_j38 v1 M = some q) (hA : mm_A (mm_Kr mm_wv) q o) : mp_204_38 L xs d v1 M o := by
  unfold mf_204_j38 at h
  obtain ⟨d, rfl⟩ := mm_d1 (n := 2) hd
  intro z2
  show mm_Runs L xs (d + 1) 204 (38, [some (.ref 84), some (.int v1), z2], [], M) o
  refine mm_Runs.seq (l := [(38, .aload_n 0, 1), (39, .iload_n 1, 1), (40, .i2l, 1)]) (S2 := (41, [some (.ref 84), some (.int v1), z2], [.long v1.toInt64, .ref 84], M)) (by decide +kernel) (hO := mm_own_204) rfl ?_
  refine mm_R_call (v := mm_wv) h hA (k2 := 195) (as := [.ref 84, .long v1.toInt64]) (r := []) rfl (fun _ => rfl) (fun q hq o ho => ms_195 (by omega) hq ho) (fun _ M1 h => ?_)
  show mm_Runs L xs (d + 1) 204 (44, [some (.ref 84), some (.int v1), z2], [], M1) o
  cases h
  exact mm_R_retv rfl rfl hA
set_option maxRecDepth 8000 in
set_option maxHeartbeats 4000000 in
theorem ms_204 {L : Nat} {xs : Nat → Int32} {d : Nat} (hd : 3 ≤ d) {M : mm_M} {q : (Unit ⊕ Nat) × mm_M} {o : mm_E} (h : mf_204 M = some q) (hA : mm_A (mm_Kr mm_wv) q o) : mm_Runs L xs d 204 (0, mm_ent (mm_ml 204) [.ref 84], [], M) o := by
  unfold mf_204 at h
  obtain ⟨d, rfl⟩ := mm_d1 (n := 2) hd
  show mm_Runs L xs (d + 1) 204 (0, [some (.ref 84), none, none], [], M) o
  refine mm_Runs.seq (l := [(0, .aload_n 0, 1), (1, .iconst 0, 1), (2, .putfield 172, 3), (5, .aload_n 0, 1), (6, .iconst 2, 1)]) (S2 := (7, [some (.ref 84), none, none], [.int (2 : Int32), .ref 84], (mm_pi M 84 15 (0 : Int32)))) (by decide +kernel) (hO := mm_own_204) rfl ?_
  refine mm_R_call (v := mm_wl) h hA (k2 := 193) (as := [.ref 84, .int (2 : Int32)]) (r := []) rfl (fun _ => rfl) (fun q hq o ho => ms_193 (by omega) hq ho) (fun r1 M2 h => ?_)
  show mm_Runs L xs (d + 1) 204 (10, [some (.ref 84), none, none], [.long r1], M2) o
  refine mm_Runs.seq (l := [(10, .l2i, 1), (11, .istore_n 1, 1), (12, .aload_n 0, 1), (13, .iconst 2, 1)]) (S2 := (14, [some (.ref 84), some (.int r1.toInt32), none], [.int (2 : Int32), .ref 84], M2)) (by decide +kernel) (hO := mm_own_204) rfl ?_
  refine mm_R_call (v := mm_wl) h hA (k2 := 193) (as := [.ref 84, .int (2 : Int32)]) (r := []) rfl (fun _ => rfl) (fun q hq o ho => ms_193 (by omega) hq ho) (fun r3 M4 h => ?_)
  show mm_Runs L xs (d + 1) 204 (17, [some (.ref 84), some (.int r1.toInt32), none], [.long r3], M4) o
  refine mm_Runs.seq (l := [(17, .l2i, 1), (18, .istore_n 2, 1), (19, .aload_n 0, 1), (20, .getfield 154, 3)]) (S2 := (23, [some (.ref 84), some (.int r1.toInt32), some (.int r3.toInt32)], [.int (M4.1 84 7)], M4)) (by decide +kernel) (hO := mm_own_204) rfl ?_
  refine mm_R_zne (t := 38) rfl rfl rfl (fun hc => ?_) (fun hc => ?_)
  · replace h := mm_ip hc h
    refine mm_Runs.seq (l := [(26, .iload_n 2, 1), (27, .ldc 210, 2), (29, .iload_n 1, 1), (30, .isub, 1)]) (S2 := (31, [some (.ref 84), some (.int r1.toInt32), some (.int r3.toInt32)], [.int ((65535 : Int32) - r1.toInt32), .int r3.toInt32], M4)) (by decide +kernel) (hO := mm_own_204) rfl ?_
    refine mm_R_ieq (t := 38) rfl rfl rfl (fun hc => ?_) (fun hc => ?_)
    · replace h := mm_ip hc h
      exact (ms_204_j38 hd h hA : mp_204_38 L xs (d + 1) r1.toInt32 M4 o) (some (.int r3.toInt32))
    · replace h := mm_iq hc h
      refine mm_Runs.seq (l := [(34, .aload_n 0, 1)]) (S2 := (35, [some (.ref 84), some (.int r1.toInt32), some (.int r3.toInt32)], [.ref 84], M4)) (by decide +kernel) (hO := mm_own_204) rfl ?_
      refine mm_R_call (v := mm_wv) h hA (k2 := 190) (as := [.ref 84]) (r := []) rfl (fun _ => rfl) (fun q hq o ho => ms_190 (by omega) hq ho) (fun _ M5 h => ?_)
      show mm_Runs L xs (d + 1) 204 (38, [some (.ref 84), some (.int r1.toInt32), some (.int r3.toInt32)], [], M5) o
      exact (ms_204_j38 hd h hA : mp_204_38 L xs (d + 1) r1.toInt32 M5 o) (some (.int r3.toInt32))
  · replace h := mm_iq hc h
    exact (ms_204_j38 hd h hA : mp_204_38 L xs (d + 1) r1.toInt32 M4 o) (some (.int r3.toInt32))
-- 199: PlainPacksModel.assign(II)V (depth 0)
theorem mm_own_199 : mm_own 199 = 12 := rfl
def mp_199_5 (L : Nat) (xs : Nat → Int32) (d : Nat) (v1 : Int32) (v2 : Int32) (v3 : Int32) (v4 : Int32) (M : mm_M) (o : mm_E) : Prop := ∀ z5 : Option Value, mm_Runs L xs d 199 (5, [some (.ref 84), some (.int v1), some (.int v2), some (.int v3), some (.int v4), z5], [], M) o
def mp_199_70 (L : Nat) (xs : Nat → Int32) (d : Nat) (M : mm_M) (o : mm_E) : Prop := ∀ z0 z1 z2 z3 z4 z5 : Option Value, mm_Runs L xs d 199 (70, [z0, z1, z2, z3, z4, z5], [], M) o
def mp_199_19 (L : Nat) (xs : Nat → Int32) (d : Nat) (v1 : Int32) (v2 : Int32) (v3 : Int32) (v4 : Int32) (v5 : Int32) (M : mm_M) (o : mm_E) : Prop := mm_Runs L xs d 199 (19, [some (.ref 84), some (.int v1), some (.int v2), some (.int v3), some (.int v4), some (.int v5)], [], M) o
def mp_199_60 (L : Nat) (xs : Nat → Int32) (d : Nat) (v1 : Int32) (v2 : Int32) (v3 : Int32) (v4 : Int32) (M : mm_M) (o : mm_E) : Prop := ∀ z5 : Option Value, mm_Runs L xs d 199 (60, [some (.ref 84), some (.int v1), some (.int v2), some (.int v3), some (.int v4), z5], [], M) o
set_option maxRecDepth 8000 in
set_option maxHeartbeats 4000000 in
theorem ms_199_b19 {L : Nat} {xs : Nat → Int32} {d : Nat} (hd : 0 ≤ d) {v1 : Int32} {v2 : Int32} {v3 : Int32} {v4 : Int32} {v5 : Int32} {M : mm_M} {q : (((Int32 × Int32) ⊕ (Int32)) ⊕ Nat) × mm_M} {o : mm_E} (h : mf_199_b19 v1 v2 v3 v4 v5 M = some q) (hA : mm_A (mm_K2 (fun s M o => mp_199_19 L xs (d) v1 v2 s.1 v4 s.2 M o) (fun r M o => mp_199_60 L xs (d) v1 v2 r v4 M o)) q o) : mp_199_19 L xs d v1 v2 v3 v4 v5 M o := by
  unfold mf_199_b19 at h
  show mm_Runs L xs (d) 199 (19, [some (.ref 84), some (.int v1), some (.int v2), some (.int v3), some (.int v4), some (.int v5)], [], M) o
  refine mm_Runs.seq (l := [(19, .iload 5, 2), (21, .sipush 300, 3), (24, .iload_n 1, 1), (25, .imul, 1), (26, .iload_n 2, 1), (27, .iadd, 1)]) (S2 := (28, [some (.ref 84), some (.int v1), some (.int v2), some (.int v3), some (.int v4), some (.int v5)], [.int (((300 : Int32) * v1) + v2), .int v5], M)) (by decide +kernel) (hO := mm_own_199) rfl ?_
  refine mm_R_ige (t := 60) rfl rfl rfl (fun hc => ?_) (fun hc => ?_)
  · replace h := mm_ip hc h
    refine mm_Runs.seq (l := [(31, .aload_n 0, 1), (32, .getfield 16, 3), (35, .iload 5, 2)]) (S2 := (37, [some (.ref 84), some (.int v1), some (.int v2), some (.int v3), some (.int v4), some (.int v5)], [.int v5, .ref 87], M)) (by decide +kernel) (hO := mm_own_199) rfl ?_
    obtain ⟨hb, h⟩ := mm_gd h
    refine mm_R_iald rfl rfl hb ?_
    refine mm_Runs.seq (l := [(38, .iload 4, 2)]) (S2 := (40, [some (.ref 84), some (.int v1), some (.int v2), some (.int v3), some (.int v4), some (.int v5)], [.int v4, .int (M.1 87 v5.toNatClampNeg)], M)) (by decide +kernel) (hO := mm_own_199) rfl ?_
    refine mm_R_ine (t := 54) rfl rfl rfl (fun hc => ?_) (fun hc => ?_)
    · replace h := mm_ip hc h
      refine mm_Runs.seq (l := [(43, .aload_n 0, 1), (44, .getfield 19, 3), (47, .iload 5, 2), (49, .iload_n 3, 1)]) (S2 := (50, [some (.ref 84), some (.int v1), some (.int v2), some (.int v3), some (.int v4), some (.int v5)], [.int v3, .int v5, .ref 88], M)) (by decide +kernel) (hO := mm_own_199) rfl ?_
      obtain ⟨hb, h⟩ := mm_gd h
      refine mm_R_iast rfl rfl hb ?_
      refine mm_Runs.seq (l := [(51, .iinc 3 1, 3), (54, .iinc 5 1, 3), (57, .goto (-38), 3)]) (S2 := (19, [some (.ref 84), some (.int v1), some (.int v2), some (.int (v3 + (1 : Int32))), some (.int v4), some (.int (v5 + (1 : Int32)))], [], (mm_pi M 88 v5.toNatClampNeg v3))) (by decide +kernel) (hO := mm_own_199) rfl ?_
      cases h
      exact (show mp_199_19 L xs (d) v1 v2 (v3 + (1 : Int32)) v4 (v5 + (1 : Int32)) (mm_pi M 88 v5.toNatClampNeg v3) o from hA)
    · replace h := mm_iq hc h
      refine mm_Runs.seq (l := [(54, .iinc 5 1, 3), (57, .goto (-38), 3)]) (S2 := (19, [some (.ref 84), some (.int v1), some (.int v2), some (.int v3), some (.int v4), some (.int (v5 + (1 : Int32)))], [], M)) (by decide +kernel) (hO := mm_own_199) rfl ?_
      cases h
      exact (show mp_199_19 L xs (d) v1 v2 v3 v4 (v5 + (1 : Int32)) M o from hA)
  · replace h := mm_iq hc h
    cases h
    exact (show mp_199_60 L xs (d) v1 v2 v3 v4 M o from hA) (some (.int v5))
theorem ms_199_L19 {L : Nat} {xs : Nat → Int32} {d : Nat} (hd : 0 ≤ d) {v1 : Int32} {v2 : Int32} {v3 : Int32} {v4 : Int32} {v5 : Int32} {β : Type} {K : β → mm_M → mm_E → Prop} {F : (Int32) → mm_M → mm_O β} {M : mm_M} {q : (β ⊕ Nat) × mm_M} {o : mm_E} (h : mm_B (mf_199_L19 v1 v2 v4 (v3, v5) M) F = some q) (hA : mm_A K q o) (hx : ∀ (r : (Int32)) (M2 : mm_M), F r M2 = some q → (fun r M o => mp_199_60 L xs (d) v1 v2 r v4 M o) r M2 o) : mp_199_19 L xs d v1 v2 v3 v4 v5 M o := by
  unfold mf_199_L19 at h
  exact mm_R_loop (step := (fun s M => mf_199_b19 v1 v2 s.1 v4 s.2 M)) (s := (v3, v5)) (M := M) (P := (fun s M o => mp_199_19 L xs (d) v1 v2 s.1 v4 s.2 M o)) (X := (fun r M o => mp_199_60 L xs (d) v1 v2 r v4 M o)) h hA (fun s M q hq hA => ms_199_b19 (v1 := v1) (v2 := v2) (v3 := s.1) (v4 := v4) (v5 := s.2) (M := M) (q := q) hd hq hA) hx
set_option maxRecDepth 8000 in
set_option maxHeartbeats 4000000 in
theorem ms_199_b5 {L : Nat} {xs : Nat → Int32} {d : Nat} (hd : 0 ≤ d) {v1 : Int32} {v2 : Int32} {v3 : Int32} {v4 : Int32} {M : mm_M} {q : (((Int32 × Int32) ⊕ (Unit)) ⊕ Nat) × mm_M} {o : mm_E} (h : mf_199_b5 v1 v2 v3 v4 M = some q) (hA : mm_A (mm_K2 (fun s M o => mp_199_5 L xs (d) v1 v2 s.1 s.2 M o) (fun r M o => mp_199_70 L xs (d) M o)) q o) : mp_199_5 L xs d v1 v2 v3 v4 M o := by
  unfold mf_199_b5 at h
  intro z5
  show mm_Runs L xs (d) 199 (5, [some (.ref 84), some (.int v1), some (.int v2), some (.int v3), some (.int v4), z5], [], M) o
  refine mm_Runs.seq (l := [(5, .iload 4, 2), (7, .bipush 20, 2)]) (S2 := (9, [some (.ref 84), some (.int v1), some (.int v2), some (.int v3), some (.int v4), z5], [.int (20 : Int32), .int v4], M)) (by decide +kernel) (hO := mm_own_199) rfl ?_
  refine mm_R_igt (t := 70) rfl rfl rfl (fun hc => ?_) (fun hc => ?_)
  · replace h := mm_ip hc h
    cases h
    exact (show mp_199_70 L xs (d) M o from hA) (some (.ref 84)) (some (.int v1)) (some (.int v2)) (some (.int v3)) (some (.int v4)) z5
  · replace h := mm_iq hc h
    refine mm_Runs.seq (l := [(12, .sipush 300, 3), (15, .iload_n 1, 1), (16, .imul, 1), (17, .istore 5, 2)]) (S2 := (19, [some (.ref 84), some (.int v1), some (.int v2), some (.int v3), some (.int v4), some (.int ((300 : Int32) * v1))], [], M)) (by decide +kernel) (hO := mm_own_199) rfl ?_
    have hp : mp_199_19 L xs (d) v1 v2 v3 v4 ((300 : Int32) * v1) M o := by
      refine ms_199_L19 hd h hA (fun r2 M1 h => ?_)
      intro y3
      show mm_Runs L xs (d) 199 (60, [some (.ref 84), some (.int v1), some (.int v2), some (.int r2), some (.int v4), y3], [], M1) o
      refine mm_Runs.seq (l := [(60, .iload_n 3, 1), (61, .iconst 1, 1), (62, .ishl, 1), (63, .istore_n 3, 1), (64, .iinc 4 1, 3), (67, .goto (-62), 3)]) (S2 := (5, [some (.ref 84), some (.int v1), some (.int v2), some (.int (mm_shl r2 (1 : Int32))), some (.int (v4 + (1 : Int32))), y3], [], M1)) (by decide +kernel) (hO := mm_own_199) rfl ?_
      cases h
      exact (show mp_199_5 L xs (d) v1 v2 (mm_shl r2 (1 : Int32)) (v4 + (1 : Int32)) M1 o from hA) y3
    exact hp
theorem ms_199_L5 {L : Nat} {xs : Nat → Int32} {d : Nat} (hd : 0 ≤ d) {v1 : Int32} {v2 : Int32} {v3 : Int32} {v4 : Int32} {β : Type} {K : β → mm_M → mm_E → Prop} {F : (Unit) → mm_M → mm_O β} {M : mm_M} {q : (β ⊕ Nat) × mm_M} {o : mm_E} (h : mm_B (mf_199_L5 v1 v2 (v3, v4) M) F = some q) (hA : mm_A K q o) (hx : ∀ (r : (Unit)) (M2 : mm_M), F r M2 = some q → (fun r M o => mp_199_70 L xs (d) M o) r M2 o) : mp_199_5 L xs d v1 v2 v3 v4 M o := by
  unfold mf_199_L5 at h
  exact mm_R_loop (step := (fun s M => mf_199_b5 v1 v2 s.1 s.2 M)) (s := (v3, v4)) (M := M) (P := (fun s M o => mp_199_5 L xs (d) v1 v2 s.1 s.2 M o)) (X := (fun r M o => mp_199_70 L xs (d) M o)) h hA (fun s M q hq hA => ms_199_b5 (v1 := v1) (v2 := v2) (v3 := s.1) (v4 := s.2) (M := M) (q := q) hd hq hA) hx
set_option maxRecDepth 8000 in
set_option maxHeartbeats 4000000 in
theorem ms_199 {L : Nat} {xs : Nat → Int32} {d : Nat} (hd : 0 ≤ d) {v1 : Int32} {v2 : Int32} {M : mm_M} {q : (Unit ⊕ Nat) × mm_M} {o : mm_E} (h : mf_199 v1 v2 M = some q) (hA : mm_A (mm_Kr mm_wv) q o) : mm_Runs L xs d 199 (0, mm_ent (mm_ml 199) [.ref 84, .int v1, .int v2], [], M) o := by
  unfold mf_199 at h
  show mm_Runs L xs (d) 199 (0, [some (.ref 84), some (.int v1), some (.int v2), none, none, none], [], M) o
  refine mm_Runs.seq (l := [(0, .iconst 0, 1), (1, .istore_n 3, 1), (2, .iconst 1, 1), (3, .istore 4, 2)]) (S2 := (5, [some (.ref 84), some (.int v1), some (.int v2), some (.int (0 : Int32)), some (.int (1 : Int32)), none], [], M)) (by decide +kernel) (hO := mm_own_199) rfl ?_
  have hp : mp_199_5 L xs (d) v1 v2 (0 : Int32) (1 : Int32) M o := by
    refine ms_199_L5 hd h hA (fun r2 M1 h => ?_)
    intro y3 y4 y5 y6 y7 y8
    show mm_Runs L xs (d) 199 (70, [y3, y4, y5, y6, y7, y8], [], M1) o
    cases h
    exact mm_R_retv rfl rfl hA
  exact hp none
-- 205: PlainPacksModel.fixed()V (depth 1)
theorem mm_own_205 : mm_own 205 = 12 := rfl
def mp_205_15 (L : Nat) (xs : Nat → Int32) (d : Nat) (v1 : Int32) (M : mm_M) (o : mm_E) : Prop := mm_Runs L xs d 205 (15, [some (.ref 84), some (.int v1)], [], M) o
def mp_205_72 (L : Nat) (xs : Nat → Int32) (d : Nat) (M : mm_M) (o : mm_E) : Prop := ∀ z1 : Option Value, mm_Runs L xs d 205 (72, [some (.ref 84), z1], [], M) o
def mp_205_65 (L : Nat) (xs : Nat → Int32) (d : Nat) (v1 : Int32) (s1 : Int32) (s2 : Int32) (M : mm_M) (o : mm_E) : Prop := mm_Runs L xs d 205 (65, [some (.ref 84), some (.int v1)], [.int s2, .int s1, .ref 87], M) o
set_option maxRecDepth 8000 in
set_option maxHeartbeats 4000000 in
theorem ms_205_j65 {L : Nat} {xs : Nat → Int32} {d : Nat} (hd : 1 ≤ d) {v1 : Int32} {s1 : Int32} {s2 : Int32} {M : mm_M} {q : (((Int32) ⊕ (Unit)) ⊕ Nat) × mm_M} {o : mm_E} (h : mf_205_j65 v1 s1 s2 M = some q) (hA : mm_A (mm_K2 (fun s M o => mp_205_15 L xs (d) s M o) (fun r M o => mp_205_72 L xs (d) M o)) q o) : mp_205_65 L xs d v1 s1 s2 M o := by
  unfold mf_205_j65 at h
  obtain ⟨d, rfl⟩ := mm_d1 (n := 0) hd
  show mm_Runs L xs (d + 1) 205 (65, [some (.ref 84), some (.int v1)], [.int s2, .int s1, .ref 87], M) o
  obtain ⟨hb, h⟩ := mm_gd h
  refine mm_R_iast rfl rfl hb ?_
  refine mm_Runs.seq (l := [(66, .iinc 1 1, 3), (69, .goto (-54), 3)]) (S2 := (15, [some (.ref 84), some (.int (v1 + (1 : Int32)))], [], (mm_pi M 87 s1.toNatClampNeg s2))) (by decide +kernel) (hO := mm_own_205) rfl ?_
  cases h
  exact (show mp_205_15 L xs (d + 1) (v1 + (1 : Int32)) (mm_pi M 87 s1.toNatClampNeg s2) o from hA)
set_option maxRecDepth 8000 in
set_option maxHeartbeats 4000000 in
theorem ms_205_b15 {L : Nat} {xs : Nat → Int32} {d : Nat} (hd : 1 ≤ d) {v1 : Int32} {M : mm_M} {q : (((Int32) ⊕ (Unit)) ⊕ Nat) × mm_M} {o : mm_E} (h : mf_205_b15 v1 M = some q) (hA : mm_A (mm_K2 (fun s M o => mp_205_15 L xs (d) s M o) (fun r M o => mp_205_72 L xs (d) M o)) q o) : mp_205_15 L xs d v1 M o := by
  unfold mf_205_b15 at h
  obtain ⟨d, rfl⟩ := mm_d1 (n := 0) hd
  show mm_Runs L xs (d + 1) 205 (15, [some (.ref 84), some (.int v1)], [], M) o
  refine mm_Runs.seq (l := [(15, .iload_n 1, 1), (16, .sipush 288, 3)]) (S2 := (19, [some (.ref 84), some (.int v1)], [.int (288 : Int32), .int v1], M)) (by decide +kernel) (hO := mm_own_205) rfl ?_
  refine mm_R_ige (t := 72) rfl rfl rfl (fun hc => ?_) (fun hc => ?_)
  · replace h := mm_ip hc h
    refine mm_Runs.seq (l := [(22, .aload_n 0, 1), (23, .getfield 16, 3), (26, .iload_n 1, 1), (27, .iload_n 1, 1), (28, .sipush 144, 3)]) (S2 := (31, [some (.ref 84), some (.int v1)], [.int (144 : Int32), .int v1, .int v1, .ref 87], M)) (by decide +kernel) (hO := mm_own_205) rfl ?_
    refine mm_R_ige (t := 39) rfl rfl rfl (fun hc => ?_) (fun hc => ?_)
    · replace h := mm_ip hc h
      refine mm_Runs.seq (l := [(34, .bipush 8, 2), (36, .goto 29, 3)]) (S2 := (65, [some (.ref 84), some (.int v1)], [.int (8 : Int32), .int v1, .ref 87], M)) (by decide +kernel) (hO := mm_own_205) rfl ?_
      exact (ms_205_j65 hd h hA : mp_205_65 L xs (d + 1) v1 v1 (8 : Int32) M o)
    · replace h := mm_iq hc h
      refine mm_Runs.seq (l := [(39, .iload_n 1, 1), (40, .sipush 256, 3)]) (S2 := (43, [some (.ref 84), some (.int v1)], [.int (256 : Int32), .int v1, .int v1, .ref 87], M)) (by decide +kernel) (hO := mm_own_205) rfl ?_
      refine mm_R_ige (t := 51) rfl rfl rfl (fun hc => ?_) (fun hc => ?_)
      · replace h := mm_ip hc h
        refine mm_Runs.seq (l := [(46, .bipush 9, 2), (48, .goto 17, 3)]) (S2 := (65, [some (.ref 84), some (.int v1)], [.int (9 : Int32), .int v1, .ref 87], M)) (by decide +kernel) (hO := mm_own_205) rfl ?_
        exact (ms_205_j65 hd h hA : mp_205_65 L xs (d + 1) v1 v1 (9 : Int32) M o)
      · replace h := mm_iq hc h
        refine mm_Runs.seq (l := [(51, .iload_n 1, 1), (52, .sipush 280, 3)]) (S2 := (55, [some (.ref 84), some (.int v1)], [.int (280 : Int32), .int v1, .int v1, .ref 87], M)) (by decide +kernel) (hO := mm_own_205) rfl ?_
        refine mm_R_ige (t := 63) rfl rfl rfl (fun hc => ?_) (fun hc => ?_)
        · replace h := mm_ip hc h
          refine mm_Runs.seq (l := [(58, .bipush 7, 2), (60, .goto 5, 3)]) (S2 := (65, [some (.ref 84), some (.int v1)], [.int (7 : Int32), .int v1, .ref 87], M)) (by decide +kernel) (hO := mm_own_205) rfl ?_
          exact (ms_205_j65 hd h hA : mp_205_65 L xs (d + 1) v1 v1 (7 : Int32) M o)
        · replace h := mm_iq hc h
          refine mm_Runs.seq (l := [(63, .bipush 8, 2)]) (S2 := (65, [some (.ref 84), some (.int v1)], [.int (8 : Int32), .int v1, .ref 87], M)) (by decide +kernel) (hO := mm_own_205) rfl ?_
          exact (ms_205_j65 hd h hA : mp_205_65 L xs (d + 1) v1 v1 (8 : Int32) M o)
  · replace h := mm_iq hc h
    cases h
    exact (show mp_205_72 L xs (d + 1) M o from hA) (some (.int v1))
theorem ms_205_L15 {L : Nat} {xs : Nat → Int32} {d : Nat} (hd : 1 ≤ d) {v1 : Int32} {β : Type} {K : β → mm_M → mm_E → Prop} {F : (Unit) → mm_M → mm_O β} {M : mm_M} {q : (β ⊕ Nat) × mm_M} {o : mm_E} (h : mm_B (mf_205_L15 v1 M) F = some q) (hA : mm_A K q o) (hx : ∀ (r : (Unit)) (M2 : mm_M), F r M2 = some q → (fun r M o => mp_205_72 L xs (d) M o) r M2 o) : mp_205_15 L xs d v1 M o := by
  unfold mf_205_L15 at h
  exact mm_R_loop (step := (fun s M => mf_205_b15 s M)) (s := v1) (M := M) (P := (fun s M o => mp_205_15 L xs (d) s M o)) (X := (fun r M o => mp_205_72 L xs (d) M o)) h hA (fun s M q hq hA => ms_205_b15 (v1 := s) (M := M) (q := q) hd hq hA) hx
def mp_205_74 (L : Nat) (xs : Nat → Int32) (d : Nat) (v1 : Int32) (M : mm_M) (o : mm_E) : Prop := mm_Runs L xs d 205 (74, [some (.ref 84), some (.int v1)], [], M) o
def mp_205_97 (L : Nat) (xs : Nat → Int32) (d : Nat) (M : mm_M) (o : mm_E) : Prop := ∀ z1 : Option Value, mm_Runs L xs d 205 (97, [some (.ref 84), z1], [], M) o
set_option maxRecDepth 8000 in
set_option maxHeartbeats 4000000 in
theorem ms_205_b74 {L : Nat} {xs : Nat → Int32} {d : Nat} (hd : 1 ≤ d) {v1 : Int32} {M : mm_M} {q : (((Int32) ⊕ (Unit)) ⊕ Nat) × mm_M} {o : mm_E} (h : mf_205_b74 v1 M = some q) (hA : mm_A (mm_K2 (fun s M o => mp_205_74 L xs (d) s M o) (fun r M o => mp_205_97 L xs (d) M o)) q o) : mp_205_74 L xs d v1 M o := by
  unfold mf_205_b74 at h
  obtain ⟨d, rfl⟩ := mm_d1 (n := 0) hd
  show mm_Runs L xs (d + 1) 205 (74, [some (.ref 84), some (.int v1)], [], M) o
  refine mm_Runs.seq (l := [(74, .iload_n 1, 1), (75, .bipush 32, 2)]) (S2 := (77, [some (.ref 84), some (.int v1)], [.int (32 : Int32), .int v1], M)) (by decide +kernel) (hO := mm_own_205) rfl ?_
  refine mm_R_ige (t := 97) rfl rfl rfl (fun hc => ?_) (fun hc => ?_)
  · replace h := mm_ip hc h
    refine mm_Runs.seq (l := [(80, .aload_n 0, 1), (81, .getfield 16, 3), (84, .sipush 300, 3), (87, .iload_n 1, 1), (88, .iadd, 1), (89, .iconst 5, 1)]) (S2 := (90, [some (.ref 84), some (.int v1)], [.int (5 : Int32), .int ((300 : Int32) + v1), .ref 87], M)) (by decide +kernel) (hO := mm_own_205) rfl ?_
    obtain ⟨hb, h⟩ := mm_gd h
    refine mm_R_iast rfl rfl hb ?_
    refine mm_Runs.seq (l := [(91, .iinc 1 1, 3), (94, .goto (-20), 3)]) (S2 := (74, [some (.ref 84), some (.int (v1 + (1 : Int32)))], [], (mm_pi M 87 ((300 : Int32) + v1).toNatClampNeg (5 : Int32)))) (by decide +kernel) (hO := mm_own_205) rfl ?_
    cases h
    exact (show mp_205_74 L xs (d + 1) (v1 + (1 : Int32)) (mm_pi M 87 ((300 : Int32) + v1).toNatClampNeg (5 : Int32)) o from hA)
  · replace h := mm_iq hc h
    cases h
    exact (show mp_205_97 L xs (d + 1) M o from hA) (some (.int v1))
theorem ms_205_L74 {L : Nat} {xs : Nat → Int32} {d : Nat} (hd : 1 ≤ d) {v1 : Int32} {β : Type} {K : β → mm_M → mm_E → Prop} {F : (Unit) → mm_M → mm_O β} {M : mm_M} {q : (β ⊕ Nat) × mm_M} {o : mm_E} (h : mm_B (mf_205_L74 v1 M) F = some q) (hA : mm_A K q o) (hx : ∀ (r : (Unit)) (M2 : mm_M), F r M2 = some q → (fun r M o => mp_205_97 L xs (d) M o) r M2 o) : mp_205_74 L xs d v1 M o := by
  unfold mf_205_L74 at h
  exact mm_R_loop (step := (fun s M => mf_205_b74 s M)) (s := v1) (M := M) (P := (fun s M o => mp_205_74 L xs (d) s M o)) (X := (fun r M o => mp_205_97 L xs (d) M o)) h hA (fun s M q hq hA => ms_205_b74 (v1 := s) (M := M) (q := q) hd hq hA) hx
set_option maxRecDepth 8000 in
set_option maxHeartbeats 4000000 in
theorem ms_205_j97 {L : Nat} {xs : Nat → Int32} {d : Nat} (hd : 1 ≤ d) {M : mm_M} {q : (Unit ⊕ Nat) × mm_M} {o : mm_E} (h : mf_205_j97 M = some q) (hA : mm_A (mm_Kr mm_wv) q o) : mp_205_97 L xs d M o := by
  unfold mf_205_j97 at h
  obtain ⟨d, rfl⟩ := mm_d1 (n := 0) hd
  intro z1
  show mm_Runs L xs (d + 1) 205 (97, [some (.ref 84), z1], [], M) o
  refine mm_Runs.seq (l := [(97, .aload_n 0, 1), (98, .iconst 0, 1), (99, .sipush 288, 3)]) (S2 := (102, [some (.ref 84), z1], [.int (288 : Int32), .int (0 : Int32), .ref 84], M)) (by decide +kernel) (hO := mm_own_205) rfl ?_
  refine mm_R_call (v := mm_wv) h hA (k2 := 199) (as := [.ref 84, .int (0 : Int32), .int (288 : Int32)]) (r := []) rfl (fun _ => rfl) (fun q hq o ho => ms_199 (by omega) hq ho) (fun _ M1 h => ?_)
  show mm_Runs L xs (d + 1) 205 (105, [some (.ref 84), z1], [], M1) o
  refine mm_Runs.seq (l := [(105, .aload_n 0, 1), (106, .iconst 1, 1), (107, .bipush 32, 2)]) (S2 := (109, [some (.ref 84), z1], [.int (32 : Int32), .int (1 : Int32), .ref 84], M1)) (by decide +kernel) (hO := mm_own_205) rfl ?_
  refine mm_R_call (v := mm_wv) h hA (k2 := 199) (as := [.ref 84, .int (1 : Int32), .int (32 : Int32)]) (r := []) rfl (fun _ => rfl) (fun q hq o ho => ms_199 (by omega) hq ho) (fun _ M2 h => ?_)
  show mm_Runs L xs (d + 1) 205 (112, [some (.ref 84), z1], [], M2) o
  cases h
  exact mm_R_retv rfl rfl hA
set_option maxRecDepth 8000 in
set_option maxHeartbeats 4000000 in
theorem ms_205 {L : Nat} {xs : Nat → Int32} {d : Nat} (hd : 1 ≤ d) {M : mm_M} {q : (Unit ⊕ Nat) × mm_M} {o : mm_E} (h : mf_205 M = some q) (hA : mm_A (mm_Kr mm_wv) q o) : mm_Runs L xs d 205 (0, mm_ent (mm_ml 205) [.ref 84], [], M) o := by
  unfold mf_205 at h
  obtain ⟨d, rfl⟩ := mm_d1 (n := 0) hd
  show mm_Runs L xs (d + 1) 205 (0, [some (.ref 84), none], [], M) o
  refine mm_Runs.seq (l := [(0, .aload_n 0, 1), (1, .sipush 288, 3), (4, .putfield 215, 3), (7, .aload_n 0, 1), (8, .bipush 32, 2), (10, .putfield 218, 3), (13, .iconst 0, 1), (14, .istore_n 1, 1)]) (S2 := (15, [some (.ref 84), some (.int (0 : Int32))], [], (mm_pi (mm_pi M 84 20 (288 : Int32)) 84 21 (32 : Int32)))) (by decide +kernel) (hO := mm_own_205) rfl ?_
  have hp : mp_205_15 L xs (d + 1) (0 : Int32) (mm_pi (mm_pi M 84 20 (288 : Int32)) 84 21 (32 : Int32)) o := by
    refine ms_205_L15 hd h hA (fun r2 M1 h => ?_)
    intro y3
    show mm_Runs L xs (d + 1) 205 (72, [some (.ref 84), y3], [], M1) o
    refine mm_Runs.seq (l := [(72, .iconst 0, 1), (73, .istore_n 1, 1)]) (S2 := (74, [some (.ref 84), some (.int (0 : Int32))], [], M1)) (by decide +kernel) (hO := mm_own_205) rfl ?_
    have hp : mp_205_74 L xs (d + 1) (0 : Int32) M1 o := by
      refine ms_205_L74 hd h hA (fun r5 M4 h => ?_)
      intro y6
      show mm_Runs L xs (d + 1) 205 (97, [some (.ref 84), y6], [], M4) o
      exact (ms_205_j97 hd h hA : mp_205_97 L xs (d + 1) M4 o) y6
    exact hp
  exact hp
