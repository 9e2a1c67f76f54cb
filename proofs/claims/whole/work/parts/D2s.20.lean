/-! MEANINGS ARE SOUND 20 -/
-- 227: PlainPacksModel.readTable(II)V (depth 4)
theorem mm_own_227 : mm_own 227 = 12 := rfl
def mp_227_25 (L : Nat) (xs : Nat → Int32) (d : Nat) (v1 : Int32) (v2 : Int32) (v3 : Int32) (M : mm_M) (o : mm_E) : Prop := ∀ z4 : Option Value, mm_Runs L xs d 227 (25, [some (.ref 84), some (.int v1), some (.int v2), some (.int v3), z4], [], M) o
def mp_227_32 (L : Nat) (xs : Nat → Int32) (d : Nat) (v1 : Int32) (v2 : Int32) (v3 : Int32) (v4 : Int32) (M : mm_M) (o : mm_E) : Prop := mm_Runs L xs d 227 (32, [some (.ref 84), some (.int v1), some (.int v2), some (.int v3), some (.int v4)], [], M) o
def mp_227_120 (L : Nat) (xs : Nat → Int32) (d : Nat) (v1 : Int32) (v2 : Int32) (M : mm_M) (o : mm_E) : Prop := ∀ z3 z4 : Option Value, mm_Runs L xs d 227 (120, [some (.ref 84), some (.int v1), some (.int v2), z3, z4], [], M) o
def mp_227_45 (L : Nat) (xs : Nat → Int32) (d : Nat) (v1 : Int32) (v2 : Int32) (v3 : Int32) (v4 : Int32) (M : mm_M) (o : mm_E) : Prop := mm_Runs L xs d 227 (45, [some (.ref 84), some (.int v1), some (.int v2), some (.int v3), some (.int v4)], [], M) o
def mp_227_100 (L : Nat) (xs : Nat → Int32) (d : Nat) (v1 : Int32) (v2 : Int32) (v3 : Int32) (v4 : Int32) (M : mm_M) (o : mm_E) : Prop := mm_Runs L xs d 227 (100, [some (.ref 84), some (.int v1), some (.int v2), some (.int v3), some (.int v4)], [], M) o
def mp_227_73 (L : Nat) (xs : Nat → Int32) (d : Nat) (v1 : Int32) (v2 : Int32) (v4 : Int32) (s0 : Int32) (s1 : Int32) (M : mm_M) (o : mm_E) : Prop := ∀ z3 : Option Value, mm_Runs L xs d 227 (73, [some (.ref 84), some (.int v1), some (.int v2), z3, some (.int v4)], [.int s1, .int s0], M) o
def mp_227_93 (L : Nat) (xs : Nat → Int32) (d : Nat) (v1 : Int32) (v2 : Int32) (v3 : Int32) (v4 : Int32) (M : mm_M) (o : mm_E) : Prop := mm_Runs L xs d 227 (93, [some (.ref 84), some (.int v1), some (.int v2), some (.int v3), some (.int v4)], [], M) o
set_option maxRecDepth 8000 in
set_option maxHeartbeats 4000000 in
theorem ms_227_j93 {L : Nat} {xs : Nat → Int32} {d : Nat} (hd : 4 ≤ d) {v1 : Int32} {v2 : Int32} {v3 : Int32} {v4 : Int32} {M : mm_M} {q : (((Int32) ⊕ (Int32)) ⊕ Nat) × mm_M} {o : mm_E} (h : mf_227_j93 v1 v2 v3 v4 M = some q) (hA : mm_A (mm_K2 (fun s M o => mp_227_45 L xs (d) v1 v2 s v4 M o) (fun r M o => mp_227_100 L xs (d) v1 v2 r v4 M o)) q o) : mp_227_93 L xs d v1 v2 v3 v4 M o := by
  unfold mf_227_j93 at h
  obtain ⟨d, rfl⟩ := mm_d1 (n := 3) hd
  show mm_Runs L xs (d + 1) 227 (93, [some (.ref 84), some (.int v1), some (.int v2), some (.int v3), some (.int v4)], [], M) o
  refine mm_Runs.seq (l := [(93, .aload_n 0, 1)]) (S2 := (94, [some (.ref 84), some (.int v1), some (.int v2), some (.int v3), some (.int v4)], [.ref 84], M)) (by decide +kernel) (hO := mm_own_227) rfl ?_
  refine mm_R_call (v := mm_wv) h hA (k2 := 190) (as := [.ref 84]) (r := []) rfl (fun _ => rfl) (fun q hq o ho => ms_190 (by omega) hq ho) (fun _ M1 h => ?_)
  show mm_Runs L xs (d + 1) 227 (97, [some (.ref 84), some (.int v1), some (.int v2), some (.int v3), some (.int v4)], [], M1) o
  refine mm_Runs.seq (l := [(97, .goto (-52), 3)]) (S2 := (45, [some (.ref 84), some (.int v1), some (.int v2), some (.int v3), some (.int v4)], [], M1)) (by decide +kernel) (hO := mm_own_227) rfl ?_
  cases h
  exact (show mp_227_45 L xs (d + 1) v1 v2 v3 v4 M1 o from hA)
set_option maxRecDepth 8000 in
set_option maxHeartbeats 4000000 in
theorem ms_227_j73 {L : Nat} {xs : Nat → Int32} {d : Nat} (hd : 4 ≤ d) {v1 : Int32} {v2 : Int32} {v4 : Int32} {s0 : Int32} {s1 : Int32} {M : mm_M} {q : (((Int32) ⊕ (Int32)) ⊕ Nat) × mm_M} {o : mm_E} (h : mf_227_j73 v1 v2 v4 s0 s1 M = some q) (hA : mm_A (mm_K2 (fun s M o => mp_227_45 L xs (d) v1 v2 s v4 M o) (fun r M o => mp_227_100 L xs (d) v1 v2 r v4 M o)) q o) : mp_227_73 L xs d v1 v2 v4 s0 s1 M o := by
  unfold mf_227_j73 at h
  obtain ⟨d, rfl⟩ := mm_d1 (n := 3) hd
  intro z3
  show mm_Runs L xs (d + 1) 227 (73, [some (.ref 84), some (.int v1), some (.int v2), z3, some (.int v4)], [.int s1, .int s0], M) o
  refine mm_Runs.seq (l := [(73, .iadd, 1), (74, .istore_n 3, 1), (75, .aload_n 0, 1), (76, .getfield 154, 3)]) (S2 := (79, [some (.ref 84), some (.int v1), some (.int v2), some (.int (s0 + s1)), some (.int v4)], [.int (M.1 84 7)], M)) (by decide +kernel) (hO := mm_own_227) rfl ?_
  refine mm_R_zne (t := 45) rfl rfl rfl (fun hc => ?_) (fun hc => ?_)
  · replace h := mm_ip hc h
    refine mm_Runs.seq (l := [(82, .iload_n 3, 1), (83, .iconst 1, 1)]) (S2 := (84, [some (.ref 84), some (.int v1), some (.int v2), some (.int (s0 + s1)), some (.int v4)], [.int (1 : Int32), .int (s0 + s1)], M)) (by decide +kernel) (hO := mm_own_227) rfl ?_
    refine mm_R_ilt (t := 93) rfl rfl rfl (fun hc => ?_) (fun hc => ?_)
    · replace h := mm_ip hc h
      exact (ms_227_j93 hd h hA : mp_227_93 L xs (d + 1) v1 v2 (s0 + s1) v4 M o)
    · replace h := mm_iq hc h
      refine mm_Runs.seq (l := [(87, .iload_n 3, 1), (88, .bipush 20, 2)]) (S2 := (90, [some (.ref 84), some (.int v1), some (.int v2), some (.int (s0 + s1)), some (.int v4)], [.int (20 : Int32), .int (s0 + s1)], M)) (by decide +kernel) (hO := mm_own_227) rfl ?_
      refine mm_R_ile (t := 45) rfl rfl rfl (fun hc => ?_) (fun hc => ?_)
      · replace h := mm_ip hc h
        exact (ms_227_j93 hd h hA : mp_227_93 L xs (d + 1) v1 v2 (s0 + s1) v4 M o)
      · replace h := mm_iq hc h
        cases h
        exact (show mp_227_45 L xs (d + 1) v1 v2 (s0 + s1) v4 M o from hA)
  · replace h := mm_iq hc h
    cases h
    exact (show mp_227_45 L xs (d + 1) v1 v2 (s0 + s1) v4 M o from hA)
set_option maxRecDepth 8000 in
set_option maxHeartbeats 4000000 in
theorem ms_227_b45 {L : Nat} {xs : Nat → Int32} {d : Nat} (hd : 4 ≤ d) {v1 : Int32} {v2 : Int32} {v3 : Int32} {v4 : Int32} {M : mm_M} {q : (((Int32) ⊕ (Int32)) ⊕ Nat) × mm_M} {o : mm_E} (h : mf_227_b45 v1 v2 v3 v4 M = some q) (hA : mm_A (mm_K2 (fun s M o => mp_227_45 L xs (d) v1 v2 s v4 M o) (fun r M o => mp_227_100 L xs (d) v1 v2 r v4 M o)) q o) : mp_227_45 L xs d v1 v2 v3 v4 M o := by
  unfold mf_227_b45 at h
  obtain ⟨d, rfl⟩ := mm_d1 (n := 3) hd
  show mm_Runs L xs (d + 1) 227 (45, [some (.ref 84), some (.int v1), some (.int v2), some (.int v3), some (.int v4)], [], M) o
  refine mm_Runs.seq (l := [(45, .aload_n 0, 1), (46, .getfield 154, 3)]) (S2 := (49, [some (.ref 84), some (.int v1), some (.int v2), some (.int v3), some (.int v4)], [.int (M.1 84 7)], M)) (by decide +kernel) (hO := mm_own_227) rfl ?_
  refine mm_R_zne (t := 100) rfl rfl rfl (fun hc => ?_) (fun hc => ?_)
  · replace h := mm_ip hc h
    refine mm_Runs.seq (l := [(52, .aload_n 0, 1)]) (S2 := (53, [some (.ref 84), some (.int v1), some (.int v2), some (.int v3), some (.int v4)], [.ref 84], M)) (by decide +kernel) (hO := mm_own_227) rfl ?_
    refine mm_R_call (v := mm_wi) h hA (k2 := 197) (as := [.ref 84]) (r := []) rfl (fun _ => rfl) (fun q hq o ho => ms_197 (by omega) hq ho) (fun r1 M2 h => ?_)
    show mm_Runs L xs (d + 1) 227 (56, [some (.ref 84), some (.int v1), some (.int v2), some (.int v3), some (.int v4)], [.int r1], M2) o
    refine mm_Runs.seq (l := [(56, .iconst 1, 1)]) (S2 := (57, [some (.ref 84), some (.int v1), some (.int v2), some (.int v3), some (.int v4)], [.int (1 : Int32), .int r1], M2)) (by decide +kernel) (hO := mm_own_227) rfl ?_
    refine mm_R_ine (t := 100) rfl rfl rfl (fun hc => ?_) (fun hc => ?_)
    · replace h := mm_ip hc h
      refine mm_Runs.seq (l := [(60, .iload_n 3, 1), (61, .aload_n 0, 1)]) (S2 := (62, [some (.ref 84), some (.int v1), some (.int v2), some (.int v3), some (.int v4)], [.ref 84, .int v3], M2)) (by decide +kernel) (hO := mm_own_227) rfl ?_
      refine mm_R_call (v := mm_wi) h hA (k2 := 197) (as := [.ref 84]) (r := [.int v3]) rfl (fun _ => rfl) (fun q hq o ho => ms_197 (by omega) hq ho) (fun r3 M4 h => ?_)
      show mm_Runs L xs (d + 1) 227 (65, [some (.ref 84), some (.int v1), some (.int v2), some (.int v3), some (.int v4)], [.int r3, .int v3], M4) o
      refine mm_R_zne (t := 72) rfl rfl rfl (fun hc => ?_) (fun hc => ?_)
      · replace h := mm_ip hc h
        refine mm_Runs.seq (l := [(68, .iconst 1, 1), (69, .goto 4, 3)]) (S2 := (73, [some (.ref 84), some (.int v1), some (.int v2), some (.int v3), some (.int v4)], [.int (1 : Int32), .int v3], M4)) (by decide +kernel) (hO := mm_own_227) rfl ?_
        exact (ms_227_j73 hd h hA : mp_227_73 L xs (d + 1) v1 v2 v4 v3 (1 : Int32) M4 o) (some (.int v3))
      · replace h := mm_iq hc h
        refine mm_Runs.seq (l := [(72, .iconst (-1), 1)]) (S2 := (73, [some (.ref 84), some (.int v1), some (.int v2), some (.int v3), some (.int v4)], [.int (-1 : Int32), .int v3], M4)) (by decide +kernel) (hO := mm_own_227) rfl ?_
        exact (ms_227_j73 hd h hA : mp_227_73 L xs (d + 1) v1 v2 v4 v3 (-1 : Int32) M4 o) (some (.int v3))
    · replace h := mm_iq hc h
      cases h
      exact (show mp_227_100 L xs (d + 1) v1 v2 v3 v4 M2 o from hA)
  · replace h := mm_iq hc h
    cases h
    exact (show mp_227_100 L xs (d + 1) v1 v2 v3 v4 M o from hA)
theorem ms_227_L45 {L : Nat} {xs : Nat → Int32} {d : Nat} (hd : 4 ≤ d) {v1 : Int32} {v2 : Int32} {v3 : Int32} {v4 : Int32} {β : Type} {K : β → mm_M → mm_E → Prop} {F : (Int32) → mm_M → mm_O β} {M : mm_M} {q : (β ⊕ Nat) × mm_M} {o : mm_E} (h : mm_B (mf_227_L45 v1 v2 v4 v3 M) F = some q) (hA : mm_A K q o) (hx : ∀ (r : (Int32)) (M2 : mm_M), F r M2 = some q → (fun r M o => mp_227_100 L xs (d) v1 v2 r v4 M o) r M2 o) : mp_227_45 L xs d v1 v2 v3 v4 M o := by
  unfold mf_227_L45 at h
  exact mm_R_loop (step := (fun s M => mf_227_b45 v1 v2 s v4 M)) (s := v3) (M := M) (P := (fun s M o => mp_227_45 L xs (d) v1 v2 s v4 M o)) (X := (fun r M o => mp_227_100 L xs (d) v1 v2 r v4 M o)) h hA (fun s M q hq hA => ms_227_b45 (v1 := v1) (v2 := v2) (v3 := s) (v4 := v4) (M := M) (q := q) hd hq hA) hx
set_option maxRecDepth 8000 in
set_option maxHeartbeats 4000000 in
theorem ms_227_j100 {L : Nat} {xs : Nat → Int32} {d : Nat} (hd : 4 ≤ d) {v1 : Int32} {v2 : Int32} {v3 : Int32} {v4 : Int32} {M : mm_M} {q : (((Int32 × Int32) ⊕ (Unit)) ⊕ Nat) × mm_M} {o : mm_E} (h : mf_227_j100 v1 v2 v3 v4 M = some q) (hA : mm_A (mm_K2 (fun s M o => mp_227_32 L xs (d) v1 v2 s.1 s.2 M o) (fun r M o => mp_227_120 L xs (d) v1 v2 M o)) q o) : mp_227_100 L xs d v1 v2 v3 v4 M o := by
  unfold mf_227_j100 at h
  obtain ⟨d, rfl⟩ := mm_d1 (n := 3) hd
  show mm_Runs L xs (d + 1) 227 (100, [some (.ref 84), some (.int v1), some (.int v2), some (.int v3), some (.int v4)], [], M) o
  refine mm_Runs.seq (l := [(100, .aload_n 0, 1), (101, .getfield 16, 3), (104, .sipush 300, 3), (107, .iload_n 1, 1), (108, .imul, 1), (109, .iload 4, 2), (111, .iadd, 1), (112, .iload_n 3, 1)]) (S2 := (113, [some (.ref 84), some (.int v1), some (.int v2), some (.int v3), some (.int v4)], [.int v3, .int (((300 : Int32) * v1) + v4), .ref 87], M)) (by decide +kernel) (hO := mm_own_227) rfl ?_
  obtain ⟨hb, h⟩ := mm_gd h
  refine mm_R_iast rfl rfl hb ?_
  refine mm_Runs.seq (l := [(114, .iinc 4 1, 3), (117, .goto (-85), 3)]) (S2 := (32, [some (.ref 84), some (.int v1), some (.int v2), some (.int v3), some (.int (v4 + (1 : Int32)))], [], (mm_pi M 87 (((300 : Int32) * v1) + v4).toNatClampNeg v3))) (by decide +kernel) (hO := mm_own_227) rfl ?_
  cases h
  exact (show mp_227_32 L xs (d + 1) v1 v2 v3 (v4 + (1 : Int32)) (mm_pi M 87 (((300 : Int32) * v1) + v4).toNatClampNeg v3) o from hA)
set_option maxRecDepth 8000 in
set_option maxHeartbeats 4000000 in
theorem ms_227_b32 {L : Nat} {xs : Nat → Int32} {d : Nat} (hd : 4 ≤ d) {v1 : Int32} {v2 : Int32} {v3 : Int32} {v4 : Int32} {M : mm_M} {q : (((Int32 × Int32) ⊕ (Unit)) ⊕ Nat) × mm_M} {o : mm_E} (h : mf_227_b32 v1 v2 v3 v4 M = some q) (hA : mm_A (mm_K2 (fun s M o => mp_227_32 L xs (d) v1 v2 s.1 s.2 M o) (fun r M o => mp_227_120 L xs (d) v1 v2 M o)) q o) : mp_227_32 L xs d v1 v2 v3 v4 M o := by
  unfold mf_227_b32 at h
  obtain ⟨d, rfl⟩ := mm_d1 (n := 3) hd
  show mm_Runs L xs (d + 1) 227 (32, [some (.ref 84), some (.int v1), some (.int v2), some (.int v3), some (.int v4)], [], M) o
  refine mm_Runs.seq (l := [(32, .iload 4, 2), (34, .iload_n 2, 1)]) (S2 := (35, [some (.ref 84), some (.int v1), some (.int v2), some (.int v3), some (.int v4)], [.int v2, .int v4], M)) (by decide +kernel) (hO := mm_own_227) rfl ?_
  refine mm_R_ige (t := 120) rfl rfl rfl (fun hc => ?_) (fun hc => ?_)
  · replace h := mm_ip hc h
    refine mm_Runs.seq (l := [(38, .aload_n 0, 1), (39, .getfield 154, 3)]) (S2 := (42, [some (.ref 84), some (.int v1), some (.int v2), some (.int v3), some (.int v4)], [.int (M.1 84 7)], M)) (by decide +kernel) (hO := mm_own_227) rfl ?_
    refine mm_R_zne (t := 120) rfl rfl rfl (fun hc => ?_) (fun hc => ?_)
    · replace h := mm_ip hc h
      have hp : mp_227_45 L xs (d + 1) v1 v2 v3 v4 M o := by
        refine ms_227_L45 hd h hA (fun r2 M1 h => ?_)
        show mm_Runs L xs (d + 1) 227 (100, [some (.ref 84), some (.int v1), some (.int v2), some (.int r2), some (.int v4)], [], M1) o
        exact (ms_227_j100 hd h hA : mp_227_100 L xs (d + 1) v1 v2 r2 v4 M1 o)
      exact hp
    · replace h := mm_iq hc h
      cases h
      exact (show mp_227_120 L xs (d + 1) v1 v2 M o from hA) (some (.int v3)) (some (.int v4))
  · replace h := mm_iq hc h
    cases h
    exact (show mp_227_120 L xs (d + 1) v1 v2 M o from hA) (some (.int v3)) (some (.int v4))
theorem ms_227_L32 {L : Nat} {xs : Nat → Int32} {d : Nat} (hd : 4 ≤ d) {v1 : Int32} {v2 : Int32} {v3 : Int32} {v4 : Int32} {β : Type} {K : β → mm_M → mm_E → Prop} {F : (Unit) → mm_M → mm_O β} {M : mm_M} {q : (β ⊕ Nat) × mm_M} {o : mm_E} (h : mm_B (mf_227_L32 v1 v2 (v3, v4) M) F = some q) (hA : mm_A K q o) (hx : ∀ (r : (Unit)) (M2 : mm_M), F r M2 = some q → (fun r M o => mp_227_120 L xs (d) v1 v2 M o) r M2 o) : mp_227_32 L xs d v1 v2 v3 v4 M o := by
  unfold mf_227_L32 at h
  exact mm_R_loop (step := (fun s M => mf_227_b32 v1 v2 s.1 s.2 M)) (s := (v3, v4)) (M := M) (P := (fun s M o => mp_227_32 L xs (d) v1 v2 s.1 s.2 M o)) (X := (fun r M o => mp_227_120 L xs (d) v1 v2 M o)) h hA (fun s M q hq hA => ms_227_b32 (v1 := v1) (v2 := v2) (v3 := s.1) (v4 := s.2) (M := M) (q := q) hd hq hA) hx
def mp_227_144 (L : Nat) (xs : Nat → Int32) (d : Nat) (v1 : Int32) (v2 : Int32) (M : mm_M) (o : mm_E) : Prop := ∀ z3 z4 : Option Value, mm_Runs L xs d 227 (144, [some (.ref 84), some (.int v1), some (.int v2), z3, z4], [], M) o
def mp_227_158 (L : Nat) (xs : Nat → Int32) (d : Nat) (s1 : Int32) (s2 : Int32) (M : mm_M) (o : mm_E) : Prop := ∀ z0 z1 z2 z3 z4 : Option Value, mm_Runs L xs d 227 (158, [z0, z1, z2, z3, z4], [.int s2, .int s1, .ref 84], M) o
set_option maxRecDepth 8000 in
set_option maxHeartbeats 4000000 in
theorem ms_227_j158 {L : Nat} {xs : Nat → Int32} {d : Nat} (hd : 4 ≤ d) {s1 : Int32} {s2 : Int32} {M : mm_M} {q : (Unit ⊕ Nat) × mm_M} {o : mm_E} (h : mf_227_j158 s1 s2 M = some q) (hA : mm_A (mm_Kr mm_wv) q o) : mp_227_158 L xs d s1 s2 M o := by
  unfold mf_227_j158 at h
  obtain ⟨d, rfl⟩ := mm_d1 (n := 3) hd
  intro z0 z1 z2 z3 z4
  show mm_Runs L xs (d + 1) 227 (158, [z0, z1, z2, z3, z4], [.int s2, .int s1, .ref 84], M) o
  refine mm_R_call (v := mm_wv) h hA (k2 := 199) (as := [.ref 84, .int s1, .int s2]) (r := []) rfl (fun _ => rfl) (fun q hq o ho => ms_199 (by omega) hq ho) (fun _ M1 h => ?_)
  show mm_Runs L xs (d + 1) 227 (161, [z0, z1, z2, z3, z4], [], M1) o
  cases h
  exact mm_R_retv rfl rfl hA
set_option maxRecDepth 8000 in
set_option maxHeartbeats 4000000 in
theorem ms_227_j144 {L : Nat} {xs : Nat → Int32} {d : Nat} (hd : 4 ≤ d) {v1 : Int32} {v2 : Int32} {M : mm_M} {q : (Unit ⊕ Nat) × mm_M} {o : mm_E} (h : mf_227_j144 v1 v2 M = some q) (hA : mm_A (mm_Kr mm_wv) q o) : mp_227_144 L xs d v1 v2 M o := by
  unfold mf_227_j144 at h
  obtain ⟨d, rfl⟩ := mm_d1 (n := 3) hd
  intro z3 z4
  show mm_Runs L xs (d + 1) 227 (144, [some (.ref 84), some (.int v1), some (.int v2), z3, z4], [], M) o
  refine mm_Runs.seq (l := [(144, .aload_n 0, 1), (145, .iload_n 1, 1), (146, .aload_n 0, 1), (147, .getfield 154, 3)]) (S2 := (150, [some (.ref 84), some (.int v1), some (.int v2), z3, z4], [.int (M.1 84 7), .int v1, .ref 84], M)) (by decide +kernel) (hO := mm_own_227) rfl ?_
  refine mm_R_zeq (t := 157) rfl rfl rfl (fun hc => ?_) (fun hc => ?_)
  · replace h := mm_ip hc h
    refine mm_Runs.seq (l := [(157, .iload_n 2, 1)]) (S2 := (158, [some (.ref 84), some (.int v1), some (.int v2), z3, z4], [.int v2, .int v1, .ref 84], M)) (by decide +kernel) (hO := mm_own_227) rfl ?_
    exact (ms_227_j158 hd h hA : mp_227_158 L xs (d + 1) v1 v2 M o) (some (.ref 84)) (some (.int v1)) (some (.int v2)) z3 z4
  · replace h := mm_iq hc h
    refine mm_Runs.seq (l := [(153, .iconst 0, 1), (154, .goto 4, 3)]) (S2 := (158, [some (.ref 84), some (.int v1), some (.int v2), z3, z4], [.int (0 : Int32), .int v1, .ref 84], M)) (by decide +kernel) (hO := mm_own_227) rfl ?_
    exact (ms_227_j158 hd h hA : mp_227_158 L xs (d + 1) v1 (0 : Int32) M o) (some (.ref 84)) (some (.int v1)) (some (.int v2)) z3 z4
set_option maxRecDepth 8000 in
set_option maxHeartbeats 4000000 in
theorem ms_227_j120 {L : Nat} {xs : Nat → Int32} {d : Nat} (hd : 4 ≤ d) {v1 : Int32} {v2 : Int32} {M : mm_M} {q : (Unit ⊕ Nat) × mm_M} {o : mm_E} (h : mf_227_j120 v1 v2 M = some q) (hA : mm_A (mm_Kr mm_wv) q o) : mp_227_120 L xs d v1 v2 M o := by
  unfold mf_227_j120 at h
  obtain ⟨d, rfl⟩ := mm_d1 (n := 3) hd
  intro z3 z4
  show mm_Runs L xs (d + 1) 227 (120, [some (.ref 84), some (.int v1), some (.int v2), z3, z4], [], M) o
  refine mm_Runs.seq (l := [(120, .aload_n 0, 1), (121, .getfield 154, 3)]) (S2 := (124, [some (.ref 84), some (.int v1), some (.int v2), z3, z4], [.int (M.1 84 7)], M)) (by decide +kernel) (hO := mm_own_227) rfl ?_
  refine mm_R_zne (t := 144) rfl rfl rfl (fun hc => ?_) (fun hc => ?_)
  · replace h := mm_ip hc h
    refine mm_Runs.seq (l := [(127, .aload_n 0, 1), (128, .iload_n 1, 1), (129, .iload_n 2, 1)]) (S2 := (130, [some (.ref 84), some (.int v1), some (.int v2), z3, z4], [.int v2, .int v1, .ref 84], M)) (by decide +kernel) (hO := mm_own_227) rfl ?_
    refine mm_R_call (v := mm_wl) h hA (k2 := 200) (as := [.ref 84, .int v1, .int v2]) (r := []) rfl (fun _ => rfl) (fun q hq o ho => ms_200 (by omega) hq ho) (fun r1 M2 h => ?_)
    show mm_Runs L xs (d + 1) 227 (133, [some (.ref 84), some (.int v1), some (.int v2), z3, z4], [.long r1], M2) o
    refine mm_Runs.seq (l := [(133, .ldc2_w 188, 3)]) (S2 := (136, [some (.ref 84), some (.int v1), some (.int v2), z3, z4], [.long (1048576 : Int64), .long r1], M2)) (by decide +kernel) (hO := mm_own_227) rfl ?_
    refine mm_R_lle (t := 144) rfl rfl rfl rfl (fun hc => ?_) (fun hc => ?_)
    · replace h := mm_ip hc h
      refine mm_Runs.seq (l := [(140, .aload_n 0, 1)]) (S2 := (141, [some (.ref 84), some (.int v1), some (.int v2), z3, z4], [.ref 84], M2)) (by decide +kernel) (hO := mm_own_227) rfl ?_
      refine mm_R_call (v := mm_wv) h hA (k2 := 190) (as := [.ref 84]) (r := []) rfl (fun _ => rfl) (fun q hq o ho => ms_190 (by omega) hq ho) (fun _ M3 h => ?_)
      show mm_Runs L xs (d + 1) 227 (144, [some (.ref 84), some (.int v1), some (.int v2), z3, z4], [], M3) o
      exact (ms_227_j144 hd h hA : mp_227_144 L xs (d + 1) v1 v2 M3 o) z3 z4
    · replace h := mm_iq hc h
      exact (ms_227_j144 hd h hA : mp_227_144 L xs (d + 1) v1 v2 M2 o) z3 z4
  · replace h := mm_iq hc h
    exact (ms_227_j144 hd h hA : mp_227_144 L xs (d + 1) v1 v2 M o) z3 z4
set_option maxRecDepth 8000 in
set_option maxHeartbeats 4000000 in
theorem ms_227_j25 {L : Nat} {xs : Nat → Int32} {d : Nat} (hd : 4 ≤ d) {v1 : Int32} {v2 : Int32} {v3 : Int32} {M : mm_M} {q : (Unit ⊕ Nat) × mm_M} {o : mm_E} (h : mf_227_j25 v1 v2 v3 M = some q) (hA : mm_A (mm_Kr mm_wv) q o) : mp_227_25 L xs d v1 v2 v3 M o := by
  unfold mf_227_j25 at h
  obtain ⟨d, rfl⟩ := mm_d1 (n := 3) hd
  intro z4
  show mm_Runs L xs (d + 1) 227 (25, [some (.ref 84), some (.int v1), some (.int v2), some (.int v3), z4], [], M) o
  refine mm_Runs.seq (l := [(25, .aload_n 0, 1)]) (S2 := (26, [some (.ref 84), some (.int v1), some (.int v2), some (.int v3), z4], [.ref 84], M)) (by decide +kernel) (hO := mm_own_227) rfl ?_
  refine mm_R_call (v := mm_wv) h hA (k2 := 190) (as := [.ref 84]) (r := []) rfl (fun _ => rfl) (fun q hq o ho => ms_190 (by omega) hq ho) (fun _ M1 h => ?_)
  show mm_Runs L xs (d + 1) 227 (29, [some (.ref 84), some (.int v1), some (.int v2), some (.int v3), z4], [], M1) o
  refine mm_Runs.seq (l := [(29, .iconst 0, 1), (30, .istore 4, 2)]) (S2 := (32, [some (.ref 84), some (.int v1), some (.int v2), some (.int v3), some (.int (0 : Int32))], [], M1)) (by decide +kernel) (hO := mm_own_227) rfl ?_
  have hp : mp_227_32 L xs (d + 1) v1 v2 v3 (0 : Int32) M1 o := by
    refine ms_227_L32 hd h hA (fun r3 M2 h => ?_)
    intro y4 y5
    show mm_Runs L xs (d + 1) 227 (120, [some (.ref 84), some (.int v1), some (.int v2), y4, y5], [], M2) o
    exact (ms_227_j120 hd h hA : mp_227_120 L xs (d + 1) v1 v2 M2 o) y4 y5
  exact hp
set_option maxRecDepth 8000 in
set_option maxHeartbeats 4000000 in
theorem ms_227 {L : Nat} {xs : Nat → Int32} {d : Nat} (hd : 4 ≤ d) {v1 : Int32} {v2 : Int32} {M : mm_M} {q : (Unit ⊕ Nat) × mm_M} {o : mm_E} (h : mf_227 v1 v2 M = some q) (hA : mm_A (mm_Kr mm_wv) q o) : mm_Runs L xs d 227 (0, mm_ent (mm_ml 227) [.ref 84, .int v1, .int v2], [], M) o := by
  unfold mf_227 at h
  obtain ⟨d, rfl⟩ := mm_d1 (n := 3) hd
  show mm_Runs L xs (d + 1) 227 (0, [some (.ref 84), some (.int v1), some (.int v2), none, none], [], M) o
  refine mm_Runs.seq (l := [(0, .aload_n 0, 1), (1, .iconst 5, 1)]) (S2 := (2, [some (.ref 84), some (.int v1), some (.int v2), none, none], [.int (5 : Int32), .ref 84], M)) (by decide +kernel) (hO := mm_own_227) rfl ?_
  refine mm_R_call (v := mm_wl) h hA (k2 := 198) (as := [.ref 84, .int (5 : Int32)]) (r := []) rfl (fun _ => rfl) (fun q hq o ho => ms_198 (by omega) hq ho) (fun r1 M2 h => ?_)
  show mm_Runs L xs (d + 1) 227 (5, [some (.ref 84), some (.int v1), some (.int v2), none, none], [.long r1], M2) o
  refine mm_Runs.seq (l := [(5, .l2i, 1), (6, .istore_n 3, 1), (7, .aload_n 0, 1), (8, .getfield 154, 3)]) (S2 := (11, [some (.ref 84), some (.int v1), some (.int v2), some (.int r1.toInt32), none], [.int (M2.1 84 7)], M2)) (by decide +kernel) (hO := mm_own_227) rfl ?_
  refine mm_R_zne (t := 29) rfl rfl rfl (fun hc => ?_) (fun hc => ?_)
  · replace h := mm_ip hc h
    refine mm_Runs.seq (l := [(14, .iload_n 3, 1), (15, .iconst 1, 1)]) (S2 := (16, [some (.ref 84), some (.int v1), some (.int v2), some (.int r1.toInt32), none], [.int (1 : Int32), .int r1.toInt32], M2)) (by decide +kernel) (hO := mm_own_227) rfl ?_
    refine mm_R_ilt (t := 25) rfl rfl rfl (fun hc => ?_) (fun hc => ?_)
    · replace h := mm_ip hc h
      exact (ms_227_j25 hd h hA : mp_227_25 L xs (d + 1) v1 v2 r1.toInt32 M2 o) none
    · replace h := mm_iq hc h
      refine mm_Runs.seq (l := [(19, .iload_n 3, 1), (20, .bipush 20, 2)]) (S2 := (22, [some (.ref 84), some (.int v1), some (.int v2), some (.int r1.toInt32), none], [.int (20 : Int32), .int r1.toInt32], M2)) (by decide +kernel) (hO := mm_own_227) rfl ?_
      refine mm_R_ile (t := 29) rfl rfl rfl (fun hc => ?_) (fun hc => ?_)
      · replace h := mm_ip hc h
        exact (ms_227_j25 hd h hA : mp_227_25 L xs (d + 1) v1 v2 r1.toInt32 M2 o) none
      · replace h := mm_iq hc h
        refine mm_Runs.seq (l := [(29, .iconst 0, 1), (30, .istore 4, 2)]) (S2 := (32, [some (.ref 84), some (.int v1), some (.int v2), some (.int r1.toInt32), some (.int (0 : Int32))], [], M2)) (by decide +kernel) (hO := mm_own_227) rfl ?_
        have hp : mp_227_32 L xs (d + 1) v1 v2 r1.toInt32 (0 : Int32) M2 o := by
          refine ms_227_L32 hd h hA (fun r4 M3 h => ?_)
          intro y5 y6
          show mm_Runs L xs (d + 1) 227 (120, [some (.ref 84), some (.int v1), some (.int v2), y5, y6], [], M3) o
          exact (ms_227_j120 hd h hA : mp_227_120 L xs (d + 1) v1 v2 M3 o) y5 y6
        exact hp
  · replace h := mm_iq hc h
    refine mm_Runs.seq (l := [(29, .iconst 0, 1), (30, .istore 4, 2)]) (S2 := (32, [some (.ref 84), some (.int v1), some (.int v2), some (.int r1.toInt32), some (.int (0 : Int32))], [], M2)) (by decide +kernel) (hO := mm_own_227) rfl ?_
    have hp : mp_227_32 L xs (d + 1) v1 v2 r1.toInt32 (0 : Int32) M2 o := by
      refine ms_227_L32 hd h hA (fun r8 M7 h => ?_)
      intro y9 y10
      show mm_Runs L xs (d + 1) 227 (120, [some (.ref 84), some (.int v1), some (.int v2), y9, y10], [], M7) o
      exact (ms_227_j120 hd h hA : mp_227_120 L xs (d + 1) v1 v2 M7 o) y9 y10
    exact hp
-- 229: PlainPacksModel.fill(J)V (depth 1)
theorem mm_own_229 : mm_own 229 = 12 := rfl
def mp_229_21 (L : Nat) (xs : Nat → Int32) (d : Nat) (v1 : Int64) (v3 : Int64) (M : mm_M) (o : mm_E) : Prop := ∀ z2 z4 : Option Value, mm_Runs L xs d 229 (21, [some (.ref 84), some (.long v1), z2, some (.long v3), z4], [], M) o
def mp_229_59 (L : Nat) (xs : Nat → Int32) (d : Nat) (M : mm_M) (o : mm_E) : Prop := ∀ z0 z1 z2 z3 z4 : Option Value, mm_Runs L xs d 229 (59, [z0, z1, z2, z3, z4], [], M) o
set_option maxRecDepth 8000 in
set_option maxHeartbeats 4000000 in
theorem ms_229_b21 {L : Nat} {xs : Nat → Int32} {d : Nat} (hd : 1 ≤ d) {v1 : Int64} {v3 : Int64} {M : mm_M} {q : (((Int64) ⊕ (Unit)) ⊕ Nat) × mm_M} {o : mm_E} (h : mf_229_b21 v1 v3 M = some q) (hA : mm_A (mm_K2 (fun s M o => mp_229_21 L xs (d) v1 s M o) (fun r M o => mp_229_59 L xs (d) M o)) q o) : mp_229_21 L xs d v1 v3 M o := by
  unfold mf_229_b21 at h
  obtain ⟨d, rfl⟩ := mm_d1 (n := 0) hd
  intro z2 z4
  show mm_Runs L xs (d + 1) 229 (21, [some (.ref 84), some (.long v1), z2, some (.long v3), z4], [], M) o
  refine mm_Runs.seq (l := [(21, .lload_n 3, 1), (22, .lload_n 1, 1)]) (S2 := (23, [some (.ref 84), some (.long v1), z2, some (.long v3), z4], [.long v1, .long v3], M)) (by decide +kernel) (hO := mm_own_229) rfl ?_
  refine mm_R_lge (t := 59) rfl rfl rfl rfl (fun hc => ?_) (fun hc => ?_)
  · replace h := mm_ip hc h
    refine mm_Runs.seq (l := [(27, .aload_n 0, 1), (28, .getfield 41, 3), (31, .aload_n 0, 1), (32, .getfield 307, 3), (35, .aload_n 0, 1), (36, .getfield 38, 3), (39, .iconst 0, 1)]) (S2 := (40, [some (.ref 84), some (.long v1), z2, some (.long v3), z4], [.int (0 : Int32), .ref 94, .int (M.1 84 28), .ref 95], M)) (by decide +kernel) (hO := mm_own_229) rfl ?_
    obtain ⟨hb, h⟩ := mm_gd h
    refine mm_R_iald rfl rfl hb ?_
    obtain ⟨hb, h⟩ := mm_gd h
    refine mm_R_iast rfl rfl hb ?_
    refine mm_Runs.seq (l := [(42, .aload_n 0, 1), (43, .dup, 1), (44, .getfield 307, 3), (47, .iconst 1, 1), (48, .iadd, 1), (49, .putfield 307, 3), (52, .lload_n 3, 1), (53, .lconst 1, 1), (54, .ladd, 1), (55, .lstore_n 3, 1), (56, .goto (-35), 3)]) (S2 := (21, [some (.ref 84), some (.long v1), (mm_no2 z2), some (.long (v3 + (1 : Int64))), none], [], (mm_pi (mm_pi M 95 (M.1 84 28).toNatClampNeg (M.1 94 (0 : Int32).toNatClampNeg)) 84 28 ((M.1 84 28) + (1 : Int32))))) (by decide +kernel) (hO := mm_own_229) rfl ?_
    cases h
    exact (show mp_229_21 L xs (d + 1) v1 (v3 + (1 : Int64)) (mm_pi (mm_pi M 95 (M.1 84 28).toNatClampNeg (M.1 94 (0 : Int32).toNatClampNeg)) 84 28 ((M.1 84 28) + (1 : Int32))) o from hA) ((mm_no2 z2)) none
  · replace h := mm_iq hc h
    cases h
    exact (show mp_229_59 L xs (d + 1) M o from hA) (some (.ref 84)) (some (.long v1)) z2 (some (.long v3)) z4
theorem ms_229_L21 {L : Nat} {xs : Nat → Int32} {d : Nat} (hd : 1 ≤ d) {v1 : Int64} {v3 : Int64} {β : Type} {K : β → mm_M → mm_E → Prop} {F : (Unit) → mm_M → mm_O β} {M : mm_M} {q : (β ⊕ Nat) × mm_M} {o : mm_E} (h : mm_B (mf_229_L21 v1 v3 M) F = some q) (hA : mm_A K q o) (hx : ∀ (r : (Unit)) (M2 : mm_M), F r M2 = some q → (fun r M o => mp_229_59 L xs (d) M o) r M2 o) : mp_229_21 L xs d v1 v3 M o := by
  unfold mf_229_L21 at h
  exact mm_R_loop (step := (fun s M => mf_229_b21 v1 s M)) (s := v3) (M := M) (P := (fun s M o => mp_229_21 L xs (d) v1 s M o)) (X := (fun r M o => mp_229_59 L xs (d) M o)) h hA (fun s M q hq hA => ms_229_b21 (v1 := v1) (v3 := s) (M := M) (q := q) hd hq hA) hx
set_option maxRecDepth 8000 in
set_option maxHeartbeats 4000000 in
theorem ms_229 {L : Nat} {xs : Nat → Int32} {d : Nat} (hd : 1 ≤ d) {v1 : Int64} {M : mm_M} {q : (Unit ⊕ Nat) × mm_M} {o : mm_E} (h : mf_229 v1 M = some q) (hA : mm_A (mm_Kr mm_wv) q o) : mm_Runs L xs d 229 (0, mm_ent (mm_ml 229) [.ref 84, .long v1], [], M) o := by
  unfold mf_229 at h
  obtain ⟨d, rfl⟩ := mm_d1 (n := 0) hd
  show mm_Runs L xs (d + 1) 229 (0, [some (.ref 84), some (.long v1), none, none, none], [], M) o
  refine mm_Runs.seq (l := [(0, .aload_n 0, 1), (1, .getfield 307, 3), (4, .i2l, 1), (5, .lload_n 1, 1), (6, .ladd, 1), (7, .ldc2_w 274, 3)]) (S2 := (10, [some (.ref 84), some (.long v1), none, none, none], [.long (16384 : Int64), .long ((M.1 84 28).toInt64 + v1)], M)) (by decide +kernel) (hO := mm_own_229) rfl ?_
  refine mm_R_lle (t := 19) rfl rfl rfl rfl (fun hc => ?_) (fun hc => ?_)
  · replace h := mm_ip hc h
    refine mm_Runs.seq (l := [(14, .aload_n 0, 1)]) (S2 := (15, [some (.ref 84), some (.long v1), none, none, none], [.ref 84], M)) (by decide +kernel) (hO := mm_own_229) rfl ?_
    refine mm_R_call (v := mm_wv) h hA (k2 := 190) (as := [.ref 84]) (r := []) rfl (fun _ => rfl) (fun q hq o ho => ms_190 (by omega) hq ho) (fun _ M1 h => ?_)
    show mm_Runs L xs (d + 1) 229 (18, [some (.ref 84), some (.long v1), none, none, none], [], M1) o
    cases h
    exact mm_R_retv rfl rfl hA
  · replace h := mm_iq hc h
    refine mm_Runs.seq (l := [(19, .lconst 0, 1), (20, .lstore_n 3, 1)]) (S2 := (21, [some (.ref 84), some (.long v1), none, some (.long (0 : Int64)), none], [], M)) (by decide +kernel) (hO := mm_own_229) rfl ?_
    have hp : mp_229_21 L xs (d + 1) v1 (0 : Int64) M o := by
      refine ms_229_L21 hd h hA (fun r3 M2 h => ?_)
      intro y4 y5 y6 y7 y8
      show mm_Runs L xs (d + 1) 229 (59, [y4, y5, y6, y7, y8], [], M2) o
      cases h
      exact mm_R_retv rfl rfl hA
    exact hp none none
-- 230: PlainPacksModel.toFront(I)V (depth 1)
theorem mm_own_230 : mm_own 230 = 12 := rfl
def mp_230_24 (L : Nat) (xs : Nat → Int32) (d : Nat) (v2 : Int32) (v3 : Int32) (M : mm_M) (o : mm_E) : Prop := ∀ z1 : Option Value, mm_Runs L xs d 230 (24, [some (.ref 84), z1, some (.int v2), some (.int v3)], [], M) o
def mp_230_48 (L : Nat) (xs : Nat → Int32) (d : Nat) (v2 : Int32) (M : mm_M) (o : mm_E) : Prop := ∀ z1 z3 : Option Value, mm_Runs L xs d 230 (48, [some (.ref 84), z1, some (.int v2), z3], [], M) o
set_option maxRecDepth 8000 in
set_option maxHeartbeats 4000000 in
theorem ms_230_b24 {L : Nat} {xs : Nat → Int32} {d : Nat} (hd : 1 ≤ d) {v2 : Int32} {v3 : Int32} {M : mm_M} {q : (((Int32) ⊕ (Unit)) ⊕ Nat) × mm_M} {o : mm_E} (h : mf_230_b24 v2 v3 M = some q) (hA : mm_A (mm_K2 (fun s M o => mp_230_24 L xs (d) v2 s M o) (fun r M o => mp_230_48 L xs (d) v2 M o)) q o) : mp_230_24 L xs d v2 v3 M o := by
  unfold mf_230_b24 at h
  obtain ⟨d, rfl⟩ := mm_d1 (n := 0) hd
  intro z1
  show mm_Runs L xs (d + 1) 230 (24, [some (.ref 84), z1, some (.int v2), some (.int v3)], [], M) o
  refine mm_Runs.seq (l := [(24, .iload_n 3, 1)]) (S2 := (25, [some (.ref 84), z1, some (.int v2), some (.int v3)], [.int v3], M)) (by decide +kernel) (hO := mm_own_230) rfl ?_
  refine mm_R_zle (t := 48) rfl rfl rfl (fun hc => ?_) (fun hc => ?_)
  · replace h := mm_ip hc h
    refine mm_Runs.seq (l := [(28, .aload_n 0, 1), (29, .getfield 38, 3), (32, .iload_n 3, 1), (33, .aload_n 0, 1), (34, .getfield 38, 3), (37, .iload_n 3, 1), (38, .iconst 1, 1), (39, .isub, 1)]) (S2 := (40, [some (.ref 84), z1, some (.int v2), some (.int v3)], [.int (v3 - (1 : Int32)), .ref 94, .int v3, .ref 94], M)) (by decide +kernel) (hO := mm_own_230) rfl ?_
    obtain ⟨hb, h⟩ := mm_gd h
    refine mm_R_iald rfl rfl hb ?_
    obtain ⟨hb, h⟩ := mm_gd h
    refine mm_R_iast rfl rfl hb ?_
    refine mm_Runs.seq (l := [(42, .iinc 3 (-1), 3), (45, .goto (-21), 3)]) (S2 := (24, [some (.ref 84), z1, some (.int v2), some (.int (v3 + (-1 : Int32)))], [], (mm_pi M 94 v3.toNatClampNeg (M.1 94 (v3 - (1 : Int32)).toNatClampNeg)))) (by decide +kernel) (hO := mm_own_230) rfl ?_
    cases h
    exact (show mp_230_24 L xs (d + 1) v2 (v3 + (-1 : Int32)) (mm_pi M 94 v3.toNatClampNeg (M.1 94 (v3 - (1 : Int32)).toNatClampNeg)) o from hA) z1
  · replace h := mm_iq hc h
    cases h
    exact (show mp_230_48 L xs (d + 1) v2 M o from hA) z1 (some (.int v3))
theorem ms_230_L24 {L : Nat} {xs : Nat → Int32} {d : Nat} (hd : 1 ≤ d) {v2 : Int32} {v3 : Int32} {β : Type} {K : β → mm_M → mm_E → Prop} {F : (Unit) → mm_M → mm_O β} {M : mm_M} {q : (β ⊕ Nat) × mm_M} {o : mm_E} (h : mm_B (mf_230_L24 v2 v3 M) F = some q) (hA : mm_A K q o) (hx : ∀ (r : (Unit)) (M2 : mm_M), F r M2 = some q → (fun r M o => mp_230_48 L xs (d) v2 M o) r M2 o) : mp_230_24 L xs d v2 v3 M o := by
  unfold mf_230_L24 at h
  exact mm_R_loop (step := (fun s M => mf_230_b24 v2 s M)) (s := v3) (M := M) (P := (fun s M o => mp_230_24 L xs (d) v2 s M o)) (X := (fun r M o => mp_230_48 L xs (d) v2 M o)) h hA (fun s M q hq hA => ms_230_b24 (v2 := v2) (v3 := s) (M := M) (q := q) hd hq hA) hx
set_option maxRecDepth 8000 in
set_option maxHeartbeats 4000000 in
theorem ms_230_j48 {L : Nat} {xs : Nat → Int32} {d : Nat} (hd : 1 ≤ d) {v2 : Int32} {M : mm_M} {q : (Unit ⊕ Nat) × mm_M} {o : mm_E} (h : mf_230_j48 v2 M = some q) (hA : mm_A (mm_Kr mm_wv) q o) : mp_230_48 L xs d v2 M o := by
  unfold mf_230_j48 at h
  obtain ⟨d, rfl⟩ := mm_d1 (n := 0) hd
  intro z1 z3
  show mm_Runs L xs (d + 1) 230 (48, [some (.ref 84), z1, some (.int v2), z3], [], M) o
  refine mm_Runs.seq (l := [(48, .aload_n 0, 1), (49, .getfield 38, 3), (52, .iconst 0, 1), (53, .iload_n 2, 1)]) (S2 := (54, [some (.ref 84), z1, some (.int v2), z3], [.int v2, .int (0 : Int32), .ref 94], M)) (by decide +kernel) (hO := mm_own_230) rfl ?_
  obtain ⟨hb, h⟩ := mm_gd h
  refine mm_R_iast rfl rfl hb ?_
  refine mm_Runs.seq (l := [(55, .aload_n 0, 1), (56, .getfield 41, 3), (59, .aload_n 0, 1), (60, .getfield 307, 3), (63, .iload_n 2, 1)]) (S2 := (64, [some (.ref 84), z1, some (.int v2), z3], [.int v2, .int (M.1 84 28), .ref 95], (mm_pi M 94 (0 : Int32).toNatClampNeg v2))) (by decide +kernel) (hO := mm_own_230) rfl ?_
  obtain ⟨hb, h⟩ := mm_gd h
  refine mm_R_iast rfl rfl hb ?_
  refine mm_Runs.seq (l := [(65, .aload_n 0, 1), (66, .dup, 1), (67, .getfield 307, 3), (70, .iconst 1, 1), (71, .iadd, 1), (72, .putfield 307, 3)]) (S2 := (75, [some (.ref 84), z1, some (.int v2), z3], [], (mm_pi (mm_pi (mm_pi M 94 (0 : Int32).toNatClampNeg v2) 95 (M.1 84 28).toNatClampNeg v2) 84 28 ((M.1 84 28) + (1 : Int32))))) (by decide +kernel) (hO := mm_own_230) rfl ?_
  cases h
  exact mm_R_retv rfl rfl hA
set_option maxRecDepth 8000 in
set_option maxHeartbeats 4000000 in
theorem ms_230 {L : Nat} {xs : Nat → Int32} {d : Nat} (hd : 1 ≤ d) {v1 : Int32} {M : mm_M} {q : (Unit ⊕ Nat) × mm_M} {o : mm_E} (h : mf_230 v1 M = some q) (hA : mm_A (mm_Kr mm_wv) q o) : mm_Runs L xs d 230 (0, mm_ent (mm_ml 230) [.ref 84, .int v1], [], M) o := by
  unfold mf_230 at h
  obtain ⟨d, rfl⟩ := mm_d1 (n := 0) hd
  show mm_Runs L xs (d + 1) 230 (0, [some (.ref 84), some (.int v1), none, none], [], M) o
  refine mm_Runs.seq (l := [(0, .aload_n 0, 1), (1, .getfield 307, 3), (4, .sipush 16384, 3)]) (S2 := (7, [some (.ref 84), some (.int v1), none, none], [.int (16384 : Int32), .int (M.1 84 28)], M)) (by decide +kernel) (hO := mm_own_230) rfl ?_
  refine mm_R_ine (t := 15) rfl rfl rfl (fun hc => ?_) (fun hc => ?_)
  · replace h := mm_ip hc h
    refine mm_Runs.seq (l := [(10, .aload_n 0, 1)]) (S2 := (11, [some (.ref 84), some (.int v1), none, none], [.ref 84], M)) (by decide +kernel) (hO := mm_own_230) rfl ?_
    refine mm_R_call (v := mm_wv) h hA (k2 := 190) (as := [.ref 84]) (r := []) rfl (fun _ => rfl) (fun q hq o ho => ms_190 (by omega) hq ho) (fun _ M1 h => ?_)
    show mm_Runs L xs (d + 1) 230 (14, [some (.ref 84), some (.int v1), none, none], [], M1) o
    cases h
    exact mm_R_retv rfl rfl hA
  · replace h := mm_iq hc h
    refine mm_Runs.seq (l := [(15, .aload_n 0, 1), (16, .getfield 38, 3), (19, .iload_n 1, 1)]) (S2 := (20, [some (.ref 84), some (.int v1), none, none], [.int v1, .ref 94], M)) (by decide +kernel) (hO := mm_own_230) rfl ?_
    obtain ⟨hb, h⟩ := mm_gd h
    refine mm_R_iald rfl rfl hb ?_
    refine mm_Runs.seq (l := [(21, .istore_n 2, 1), (22, .iload_n 1, 1), (23, .istore_n 3, 1)]) (S2 := (24, [some (.ref 84), some (.int v1), some (.int (M.1 94 v1.toNatClampNeg)), some (.int v1)], [], M)) (by decide +kernel) (hO := mm_own_230) rfl ?_
    have hp : mp_230_24 L xs (d + 1) (M.1 94 v1.toNatClampNeg) v1 M o := by
      refine ms_230_L24 hd h hA (fun r3 M2 h => ?_)
      intro y4 y5
      show mm_Runs L xs (d + 1) 230 (48, [some (.ref 84), y4, some (.int (M.1 94 v1.toNatClampNeg)), y5], [], M2) o
      exact (ms_230_j48 hd h hA : mp_230_48 L xs (d + 1) (M.1 94 v1.toNatClampNeg) M2 o) y4 y5
    exact hp (some (.int v1))
-- 228: PlainPacksModel.readLetters(I)V (depth 4)
theorem mm_own_228 : mm_own 228 = 12 := rfl
def mp_228_18 (L : Nat) (xs : Nat → Int32) (d : Nat) (v1 : Int32) (v2 : Int32) (v3 : Int32) (v4 : Int64) (v6 : Int32) (v7 : Int32) (M : mm_M) (o : mm_E) : Prop := ∀ z5 z8 : Option Value, mm_Runs L xs d 228 (18, [some (.ref 84), some (.int v1), some (.int v2), some (.int v3), some (.long v4), z5, some (.int v6), some (.int v7), z8], [], M) o
def mp_228_180 (L : Nat) (xs : Nat → Int32) (d : Nat) (M : mm_M) (o : mm_E) : Prop := ∀ z0 z1 z2 z3 z4 z5 z6 z7 z8 : Option Value, mm_Runs L xs d 228 (180, [z0, z1, z2, z3, z4, z5, z6, z7, z8], [], M) o
def mp_228_40 (L : Nat) (xs : Nat → Int32) (d : Nat) (v1 : Int32) (v2 : Int32) (v3 : Int32) (v4 : Int64) (v6 : Int32) (v7 : Int32) (M : mm_M) (o : mm_E) : Prop := ∀ z5 z8 : Option Value, mm_Runs L xs d 228 (40, [some (.ref 84), some (.int v1), some (.int v2), some (.int v3), some (.long v4), z5, some (.int v6), some (.int v7), z8], [], M) o
def mp_228_52 (L : Nat) (xs : Nat → Int32) (d : Nat) (v1 : Int32) (v2 : Int32) (v3 : Int32) (v4 : Int64) (v6 : Int32) (v7 : Int32) (M : mm_M) (o : mm_E) : Prop := ∀ z5 z8 : Option Value, mm_Runs L xs d 228 (52, [some (.ref 84), some (.int v1), some (.int v2), some (.int v3), some (.long v4), z5, some (.int v6), some (.int v7), z8], [], M) o
def mp_228_77 (L : Nat) (xs : Nat → Int32) (d : Nat) (v1 : Int32) (v2 : Int32) (v3 : Int32) (v4 : Int64) (v6 : Int32) (v7 : Int32) (s0 : Int32) (M : mm_M) (o : mm_E) : Prop := ∀ z5 z8 : Option Value, mm_Runs L xs d 228 (77, [some (.ref 84), some (.int v1), some (.int v2), some (.int v3), some (.long v4), z5, some (.int v6), some (.int v7), z8], [.int s0], M) o
def mp_228_155 (L : Nat) (xs : Nat → Int32) (d : Nat) (v1 : Int32) (v2 : Int32) (v3 : Int32) (v4 : Int64) (v6 : Int32) (v8 : Int32) (s0 : Int32) (M : mm_M) (o : mm_E) : Prop := ∀ z5 z7 : Option Value, mm_Runs L xs d 228 (155, [some (.ref 84), some (.int v1), some (.int v2), some (.int v3), some (.long v4), z5, some (.int v6), z7, some (.int v8)], [.int s0], M) o
set_option maxRecDepth 8000 in
set_option maxHeartbeats 4000000 in
theorem ms_228_j155 {L : Nat} {xs : Nat → Int32} {d : Nat} (hd : 4 ≤ d) {v1 : Int32} {v2 : Int32} {v3 : Int32} {v4 : Int64} {v6 : Int32} {v8 : Int32} {s0 : Int32} {M : mm_M} {q : (((Int32 × Int32 × Int64 × Int32 × Int32) ⊕ (Unit)) ⊕ Nat) × mm_M} {o : mm_E} (h : mf_228_j155 v1 v2 v3 v4 v6 v8 s0 M = some q) (hA : mm_A (mm_K2 (fun s M o => mp_228_18 L xs (d) v1 s.1 s.2.1 s.2.2.1 s.2.2.2.1 s.2.2.2.2 M o) (fun r M o => mp_228_180 L xs (d) M o)) q o) : mp_228_155 L xs d v1 v2 v3 v4 v6 v8 s0 M o := by
  unfold mf_228_j155 at h
  obtain ⟨d, rfl⟩ := mm_d1 (n := 3) hd
  intro z5 z7
  show mm_Runs L xs (d + 1) 228 (155, [some (.ref 84), some (.int v1), some (.int v2), some (.int v3), some (.long v4), z5, some (.int v6), z7, some (.int v8)], [.int s0], M) o
  refine mm_Runs.seq (l := [(155, .istore 7, 2), (157, .iload 7, 2)]) (S2 := (159, [some (.ref 84), some (.int v1), some (.int v2), some (.int v3), some (.long v4), z5, some (.int v6), some (.int s0), some (.int v8)], [.int s0], M)) (by decide +kernel) (hO := mm_own_228) rfl ?_
  refine mm_R_zeq (t := 177) rfl rfl rfl (fun hc => ?_) (fun hc => ?_)
  · replace h := mm_ip hc h
    refine mm_Runs.seq (l := [(177, .goto (-159), 3)]) (S2 := (18, [some (.ref 84), some (.int v1), some (.int v2), some (.int v3), some (.long v4), z5, some (.int v6), some (.int s0), some (.int v8)], [], M)) (by decide +kernel) (hO := mm_own_228) rfl ?_
    cases h
    exact (show mp_228_18 L xs (d + 1) v1 v2 v3 v4 v6 s0 M o from hA) z5 (some (.int v8))
  · replace h := mm_iq hc h
    refine mm_Runs.seq (l := [(162, .aload_n 0, 1), (163, .getfield 154, 3)]) (S2 := (166, [some (.ref 84), some (.int v1), some (.int v2), some (.int v3), some (.long v4), z5, some (.int v6), some (.int s0), some (.int v8)], [.int (M.1 84 7)], M)) (by decide +kernel) (hO := mm_own_228) rfl ?_
    refine mm_R_zne (t := 177) rfl rfl rfl (fun hc => ?_) (fun hc => ?_)
    · replace h := mm_ip hc h
      refine mm_Runs.seq (l := [(169, .aload_n 0, 1), (170, .iload 8, 2), (172, .iconst 1, 1), (173, .isub, 1)]) (S2 := (174, [some (.ref 84), some (.int v1), some (.int v2), some (.int v3), some (.long v4), z5, some (.int v6), some (.int s0), some (.int v8)], [.int (v8 - (1 : Int32)), .ref 84], M)) (by decide +kernel) (hO := mm_own_228) rfl ?_
      refine mm_R_call (v := mm_wv) h hA (k2 := 230) (as := [.ref 84, .int (v8 - (1 : Int32))]) (r := []) rfl (fun _ => rfl) (fun q hq o ho => ms_230 (by omega) hq ho) (fun _ M1 h => ?_)
      show mm_Runs L xs (d + 1) 228 (177, [some (.ref 84), some (.int v1), some (.int v2), some (.int v3), some (.long v4), z5, some (.int v6), some (.int s0), some (.int v8)], [], M1) o
      refine mm_Runs.seq (l := [(177, .goto (-159), 3)]) (S2 := (18, [some (.ref 84), some (.int v1), some (.int v2), some (.int v3), some (.long v4), z5, some (.int v6), some (.int s0), some (.int v8)], [], M1)) (by decide +kernel) (hO := mm_own_228) rfl ?_
      cases h
      exact (show mp_228_18 L xs (d + 1) v1 v2 v3 v4 v6 s0 M1 o from hA) z5 (some (.int v8))
    · replace h := mm_iq hc h
      refine mm_Runs.seq (l := [(177, .goto (-159), 3)]) (S2 := (18, [some (.ref 84), some (.int v1), some (.int v2), some (.int v3), some (.long v4), z5, some (.int v6), some (.int s0), some (.int v8)], [], M)) (by decide +kernel) (hO := mm_own_228) rfl ?_
      cases h
      exact (show mp_228_18 L xs (d + 1) v1 v2 v3 v4 v6 s0 M o from hA) z5 (some (.int v8))
set_option maxRecDepth 8000 in
set_option maxHeartbeats 4000000 in
theorem ms_228_j77 {L : Nat} {xs : Nat → Int32} {d : Nat} (hd : 4 ≤ d) {v1 : Int32} {v2 : Int32} {v3 : Int32} {v4 : Int64} {v6 : Int32} {v7 : Int32} {s0 : Int32} {M : mm_M} {q : (((Int32 × Int32 × Int64 × Int32 × Int32) ⊕ (Unit)) ⊕ Nat) × mm_M} {o : mm_E} (h : mf_228_j77 v1 v2 v3 v4 v6 v7 s0 M = some q) (hA : mm_A (mm_K2 (fun s M o => mp_228_18 L xs (d) v1 s.1 s.2.1 s.2.2.1 s.2.2.2.1 s.2.2.2.2 M o) (fun r M o => mp_228_180 L xs (d) M o)) q o) : mp_228_77 L xs d v1 v2 v3 v4 v6 v7 s0 M o := by
  unfold mf_228_j77 at h
  obtain ⟨d, rfl⟩ := mm_d1 (n := 3) hd
  intro z5 z8
  show mm_Runs L xs (d + 1) 228 (77, [some (.ref 84), some (.int v1), some (.int v2), some (.int v3), some (.long v4), z5, some (.int v6), some (.int v7), z8], [.int s0], M) o
  refine mm_Runs.seq (l := [(77, .istore 8, 2), (79, .aload_n 0, 1), (80, .getfield 154, 3)]) (S2 := (83, [some (.ref 84), some (.int v1), some (.int v2), some (.int v3), some (.long v4), z5, some (.int v6), some (.int v7), some (.int s0)], [.int (M.1 84 7)], M)) (by decide +kernel) (hO := mm_own_228) rfl ?_
  refine mm_R_zeq (t := 92) rfl rfl rfl (fun hc => ?_) (fun hc => ?_)
  · replace h := mm_ip hc h
    refine mm_Runs.seq (l := [(92, .iload 8, 2), (94, .iconst 2, 1)]) (S2 := (95, [some (.ref 84), some (.int v1), some (.int v2), some (.int v3), some (.long v4), z5, some (.int v6), some (.int v7), some (.int s0)], [.int (2 : Int32), .int s0], M)) (by decide +kernel) (hO := mm_own_228) rfl ?_
    refine mm_R_ige (t := 130) rfl rfl rfl (fun hc => ?_) (fun hc => ?_)
    · replace h := mm_ip hc h
      refine mm_Runs.seq (l := [(98, .lload 4, 2), (100, .lload 4, 2), (102, .ldc2_w 274, 3)]) (S2 := (105, [some (.ref 84), some (.int v1), some (.int v2), some (.int v3), some (.long v4), z5, some (.int v6), some (.int v7), some (.int s0)], [.long (16384 : Int64), .long v4, .long v4], M)) (by decide +kernel) (hO := mm_own_228) rfl ?_
      refine mm_R_lle (t := 113) rfl rfl rfl rfl (fun hc => ?_) (fun hc => ?_)
      · replace h := mm_ip hc h
        refine mm_Runs.seq (l := [(109, .lconst 0, 1), (110, .goto 11, 3), (121, .ladd, 1), (122, .lstore 4, 2), (124, .iinc 6 1, 3), (127, .goto 50, 3), (177, .goto (-159), 3)]) (S2 := (18, [some (.ref 84), some (.int v1), some (.int v2), some (.int v3), some (.long (v4 + (0 : Int64))), none, some (.int (v6 + (1 : Int32))), some (.int v7), some (.int s0)], [], M)) (by decide +kernel) (hO := mm_own_228) rfl ?_
        cases h
        exact (show mp_228_18 L xs (d + 1) v1 v2 v3 (v4 + (0 : Int64)) (v6 + (1 : Int32)) v7 M o from hA) none (some (.int s0))
      · replace h := mm_iq hc h
        refine mm_Runs.seq (l := [(113, .lconst 1, 1), (114, .iload 8, 2), (116, .i2l, 1), (117, .ladd, 1), (118, .iload 6, 2), (120, .lshl, 1), (121, .ladd, 1), (122, .lstore 4, 2), (124, .iinc 6 1, 3), (127, .goto 50, 3), (177, .goto (-159), 3)]) (S2 := (18, [some (.ref 84), some (.int v1), some (.int v2), some (.int v3), some (.long (v4 + (mm_lshl ((1 : Int64) + s0.toInt64) v6))), none, some (.int (v6 + (1 : Int32))), some (.int v7), some (.int s0)], [], M)) (by decide +kernel) (hO := mm_own_228) rfl ?_
        cases h
        exact (show mp_228_18 L xs (d + 1) v1 v2 v3 (v4 + (mm_lshl ((1 : Int64) + s0.toInt64) v6)) (v6 + (1 : Int32)) v7 M o from hA) none (some (.int s0))
    · replace h := mm_iq hc h
      refine mm_Runs.seq (l := [(130, .aload_n 0, 1), (131, .lload 4, 2)]) (S2 := (133, [some (.ref 84), some (.int v1), some (.int v2), some (.int v3), some (.long v4), z5, some (.int v6), some (.int v7), some (.int s0)], [.long v4, .ref 84], M)) (by decide +kernel) (hO := mm_own_228) rfl ?_
      refine mm_R_call (v := mm_wv) h hA (k2 := 229) (as := [.ref 84, .long v4]) (r := []) rfl (fun _ => rfl) (fun q hq o ho => ms_229 (by omega) hq ho) (fun _ M1 h => ?_)
      show mm_Runs L xs (d + 1) 228 (136, [some (.ref 84), some (.int v1), some (.int v2), some (.int v3), some (.long v4), z5, some (.int v6), some (.int v7), some (.int s0)], [], M1) o
      refine mm_Runs.seq (l := [(136, .lconst 0, 1), (137, .lstore 4, 2), (139, .iconst 0, 1), (140, .istore 6, 2), (142, .iload 8, 2), (144, .iload_n 1, 1), (145, .iconst 1, 1), (146, .isub, 1)]) (S2 := (147, [some (.ref 84), some (.int v1), some (.int v2), some (.int v3), some (.long (0 : Int64)), none, some (.int (0 : Int32)), some (.int v7), some (.int s0)], [.int (v1 - (1 : Int32)), .int s0], M1)) (by decide +kernel) (hO := mm_own_228) rfl ?_
      refine mm_R_ieq (t := 154) rfl rfl rfl (fun hc => ?_) (fun hc => ?_)
      · replace h := mm_ip hc h
        refine mm_Runs.seq (l := [(154, .iconst 0, 1)]) (S2 := (155, [some (.ref 84), some (.int v1), some (.int v2), some (.int v3), some (.long (0 : Int64)), none, some (.int (0 : Int32)), some (.int v7), some (.int s0)], [.int (0 : Int32)], M1)) (by decide +kernel) (hO := mm_own_228) rfl ?_
        exact (ms_228_j155 hd h hA : mp_228_155 L xs (d + 1) v1 v2 v3 (0 : Int64) (0 : Int32) s0 (0 : Int32) M1 o) none (some (.int v7))
      · replace h := mm_iq hc h
        refine mm_Runs.seq (l := [(150, .iconst 1, 1), (151, .goto 4, 3)]) (S2 := (155, [some (.ref 84), some (.int v1), some (.int v2), some (.int v3), some (.long (0 : Int64)), none, some (.int (0 : Int32)), some (.int v7), some (.int s0)], [.int (1 : Int32)], M1)) (by decide +kernel) (hO := mm_own_228) rfl ?_
        exact (ms_228_j155 hd h hA : mp_228_155 L xs (d + 1) v1 v2 v3 (0 : Int64) (0 : Int32) s0 (1 : Int32) M1 o) none (some (.int v7))
  · replace h := mm_iq hc h
    refine mm_Runs.seq (l := [(86, .iconst 0, 1), (87, .istore 7, 2), (89, .goto 88, 3), (177, .goto (-159), 3)]) (S2 := (18, [some (.ref 84), some (.int v1), some (.int v2), some (.int v3), some (.long v4), z5, some (.int v6), some (.int (0 : Int32)), some (.int s0)], [], M)) (by decide +kernel) (hO := mm_own_228) rfl ?_
    cases h
    exact (show mp_228_18 L xs (d + 1) v1 v2 v3 v4 v6 (0 : Int32) M o from hA) z5 (some (.int s0))
set_option maxRecDepth 8000 in
set_option maxHeartbeats 4000000 in
theorem ms_228_j52 {L : Nat} {xs : Nat → Int32} {d : Nat} (hd : 4 ≤ d) {v1 : Int32} {v2 : Int32} {v3 : Int32} {v4 : Int64} {v6 : Int32} {v7 : Int32} {M : mm_M} {q : (((Int32 × Int32 × Int64 × Int32 × Int32) ⊕ (Unit)) ⊕ Nat) × mm_M} {o : mm_E} (h : mf_228_j52 v1 v2 v3 v4 v6 v7 M = some q) (hA : mm_A (mm_K2 (fun s M o => mp_228_18 L xs (d) v1 s.1 s.2.1 s.2.2.1 s.2.2.2.1 s.2.2.2.2 M o) (fun r M o => mp_228_180 L xs (d) M o)) q o) : mp_228_52 L xs d v1 v2 v3 v4 v6 v7 M o := by
  unfold mf_228_j52 at h
  obtain ⟨d, rfl⟩ := mm_d1 (n := 3) hd
  intro z5 z8
  show mm_Runs L xs (d + 1) 228 (52, [some (.ref 84), some (.int v1), some (.int v2), some (.int v3), some (.long v4), z5, some (.int v6), some (.int v7), z8], [], M) o
  refine mm_Runs.seq (l := [(52, .iinc 3 (-1), 3), (55, .aload_n 0, 1), (56, .getfield 154, 3)]) (S2 := (59, [some (.ref 84), some (.int v1), some (.int v2), some (.int (v3 + (-1 : Int32))), some (.long v4), z5, some (.int v6), some (.int v7), z8], [.int (M.1 84 7)], M)) (by decide +kernel) (hO := mm_own_228) rfl ?_
  refine mm_R_zeq (t := 66) rfl rfl rfl (fun hc => ?_) (fun hc => ?_)
  · replace h := mm_ip hc h
    refine mm_Runs.seq (l := [(66, .aload_n 0, 1), (67, .aload_n 0, 1), (68, .getfield 35, 3), (71, .iload_n 2, 1)]) (S2 := (72, [some (.ref 84), some (.int v1), some (.int v2), some (.int (v3 + (-1 : Int32))), some (.long v4), z5, some (.int v6), some (.int v7), z8], [.int v2, .ref 93, .ref 84], M)) (by decide +kernel) (hO := mm_own_228) rfl ?_
    obtain ⟨hb, h⟩ := mm_gd h
    refine mm_R_iald rfl rfl hb ?_
    refine mm_Runs.seq (l := [(73, .iload_n 1, 1)]) (S2 := (74, [some (.ref 84), some (.int v1), some (.int v2), some (.int (v3 + (-1 : Int32))), some (.long v4), z5, some (.int v6), some (.int v7), z8], [.int v1, .int (M.1 93 v2.toNatClampNeg), .ref 84], M)) (by decide +kernel) (hO := mm_own_228) rfl ?_
    refine mm_R_call (v := mm_wi) h hA (k2 := 202) (as := [.ref 84, .int (M.1 93 v2.toNatClampNeg), .int v1]) (r := []) rfl (fun _ => rfl) (fun q hq o ho => ms_202 (by omega) hq ho) (fun r1 M2 h => ?_)
    show mm_Runs L xs (d + 1) 228 (77, [some (.ref 84), some (.int v1), some (.int v2), some (.int (v3 + (-1 : Int32))), some (.long v4), z5, some (.int v6), some (.int v7), z8], [.int r1], M2) o
    exact (ms_228_j77 hd h hA : mp_228_77 L xs (d + 1) v1 v2 (v3 + (-1 : Int32)) v4 v6 v7 r1 M2 o) z5 z8
  · replace h := mm_iq hc h
    refine mm_Runs.seq (l := [(62, .iconst 0, 1), (63, .goto 14, 3)]) (S2 := (77, [some (.ref 84), some (.int v1), some (.int v2), some (.int (v3 + (-1 : Int32))), some (.long v4), z5, some (.int v6), some (.int v7), z8], [.int (0 : Int32)], M)) (by decide +kernel) (hO := mm_own_228) rfl ?_
    exact (ms_228_j77 hd h hA : mp_228_77 L xs (d + 1) v1 v2 (v3 + (-1 : Int32)) v4 v6 v7 (0 : Int32) M o) z5 z8
set_option maxRecDepth 8000 in
set_option maxHeartbeats 4000000 in
theorem ms_228_j40 {L : Nat} {xs : Nat → Int32} {d : Nat} (hd : 4 ≤ d) {v1 : Int32} {v2 : Int32} {v3 : Int32} {v4 : Int64} {v6 : Int32} {v7 : Int32} {M : mm_M} {q : (((Int32 × Int32 × Int64 × Int32 × Int32) ⊕ (Unit)) ⊕ Nat) × mm_M} {o : mm_E} (h : mf_228_j40 v1 v2 v3 v4 v6 v7 M = some q) (hA : mm_A (mm_K2 (fun s M o => mp_228_18 L xs (d) v1 s.1 s.2.1 s.2.2.1 s.2.2.2.1 s.2.2.2.2 M o) (fun r M o => mp_228_180 L xs (d) M o)) q o) : mp_228_40 L xs d v1 v2 v3 v4 v6 v7 M o := by
  unfold mf_228_j40 at h
  obtain ⟨d, rfl⟩ := mm_d1 (n := 3) hd
  intro z5 z8
  show mm_Runs L xs (d + 1) 228 (40, [some (.ref 84), some (.int v1), some (.int v2), some (.int v3), some (.long v4), z5, some (.int v6), some (.int v7), z8], [], M) o
  refine mm_Runs.seq (l := [(40, .iload_n 2, 1), (41, .aload_n 0, 1), (42, .getfield 295, 3)]) (S2 := (45, [some (.ref 84), some (.int v1), some (.int v2), some (.int v3), some (.long v4), z5, some (.int v6), some (.int v7), z8], [.int (M.1 84 30), .int v2], M)) (by decide +kernel) (hO := mm_own_228) rfl ?_
  refine mm_R_ine (t := 52) rfl rfl rfl (fun hc => ?_) (fun hc => ?_)
  · replace h := mm_ip hc h
    refine mm_Runs.seq (l := [(48, .aload_n 0, 1)]) (S2 := (49, [some (.ref 84), some (.int v1), some (.int v2), some (.int v3), some (.long v4), z5, some (.int v6), some (.int v7), z8], [.ref 84], M)) (by decide +kernel) (hO := mm_own_228) rfl ?_
    refine mm_R_call (v := mm_wv) h hA (k2 := 190) (as := [.ref 84]) (r := []) rfl (fun _ => rfl) (fun q hq o ho => ms_190 (by omega) hq ho) (fun _ M1 h => ?_)
    show mm_Runs L xs (d + 1) 228 (52, [some (.ref 84), some (.int v1), some (.int v2), some (.int v3), some (.long v4), z5, some (.int v6), some (.int v7), z8], [], M1) o
    exact (ms_228_j52 hd h hA : mp_228_52 L xs (d + 1) v1 v2 v3 v4 v6 v7 M1 o) z5 z8
  · replace h := mm_iq hc h
    exact (ms_228_j52 hd h hA : mp_228_52 L xs (d + 1) v1 v2 v3 v4 v6 v7 M o) z5 z8
set_option maxRecDepth 8000 in
set_option maxHeartbeats 4000000 in
theorem ms_228_b18 {L : Nat} {xs : Nat → Int32} {d : Nat} (hd : 4 ≤ d) {v1 : Int32} {v2 : Int32} {v3 : Int32} {v4 : Int64} {v6 : Int32} {v7 : Int32} {M : mm_M} {q : (((Int32 × Int32 × Int64 × Int32 × Int32) ⊕ (Unit)) ⊕ Nat) × mm_M} {o : mm_E} (h : mf_228_b18 v1 v2 v3 v4 v6 v7 M = some q) (hA : mm_A (mm_K2 (fun s M o => mp_228_18 L xs (d) v1 s.1 s.2.1 s.2.2.1 s.2.2.2.1 s.2.2.2.2 M o) (fun r M o => mp_228_180 L xs (d) M o)) q o) : mp_228_18 L xs d v1 v2 v3 v4 v6 v7 M o := by
  unfold mf_228_b18 at h
  obtain ⟨d, rfl⟩ := mm_d1 (n := 3) hd
  intro z5 z8
  show mm_Runs L xs (d + 1) 228 (18, [some (.ref 84), some (.int v1), some (.int v2), some (.int v3), some (.long v4), z5, some (.int v6), some (.int v7), z8], [], M) o
  refine mm_Runs.seq (l := [(18, .iload 7, 2)]) (S2 := (20, [some (.ref 84), some (.int v1), some (.int v2), some (.int v3), some (.long v4), z5, some (.int v6), some (.int v7), z8], [.int v7], M)) (by decide +kernel) (hO := mm_own_228) rfl ?_
  refine mm_R_zeq (t := 180) rfl rfl rfl (fun hc => ?_) (fun hc => ?_)
  · replace h := mm_ip hc h
    cases h
    exact (show mp_228_180 L xs (d + 1) M o from hA) (some (.ref 84)) (some (.int v1)) (some (.int v2)) (some (.int v3)) (some (.long v4)) z5 (some (.int v6)) (some (.int v7)) z8
  · replace h := mm_iq hc h
    refine mm_Runs.seq (l := [(23, .aload_n 0, 1), (24, .getfield 154, 3)]) (S2 := (27, [some (.ref 84), some (.int v1), some (.int v2), some (.int v3), some (.long v4), z5, some (.int v6), some (.int v7), z8], [.int (M.1 84 7)], M)) (by decide +kernel) (hO := mm_own_228) rfl ?_
    refine mm_R_zne (t := 180) rfl rfl rfl (fun hc => ?_) (fun hc => ?_)
    · replace h := mm_ip hc h
      refine mm_Runs.seq (l := [(30, .iload_n 3, 1)]) (S2 := (31, [some (.ref 84), some (.int v1), some (.int v2), some (.int v3), some (.long v4), z5, some (.int v6), some (.int v7), z8], [.int v3], M)) (by decide +kernel) (hO := mm_own_228) rfl ?_
      refine mm_R_zne (t := 40) rfl rfl rfl (fun hc => ?_) (fun hc => ?_)
      · replace h := mm_ip hc h
        refine mm_Runs.seq (l := [(34, .iinc 2 1, 3), (37, .bipush 50, 2), (39, .istore_n 3, 1)]) (S2 := (40, [some (.ref 84), some (.int v1), some (.int (v2 + (1 : Int32))), some (.int (50 : Int32)), some (.long v4), z5, some (.int v6), some (.int v7), z8], [], M)) (by decide +kernel) (hO := mm_own_228) rfl ?_
        exact (ms_228_j40 hd h hA : mp_228_40 L xs (d + 1) v1 (v2 + (1 : Int32)) (50 : Int32) v4 v6 v7 M o) z5 z8
      · replace h := mm_iq hc h
        exact (ms_228_j40 hd h hA : mp_228_40 L xs (d + 1) v1 v2 v3 v4 v6 v7 M o) z5 z8
    · replace h := mm_iq hc h
      cases h
      exact (show mp_228_180 L xs (d + 1) M o from hA) (some (.ref 84)) (some (.int v1)) (some (.int v2)) (some (.int v3)) (some (.long v4)) z5 (some (.int v6)) (some (.int v7)) z8
theorem ms_228_L18 {L : Nat} {xs : Nat → Int32} {d : Nat} (hd : 4 ≤ d) {v1 : Int32} {v2 : Int32} {v3 : Int32} {v4 : Int64} {v6 : Int32} {v7 : Int32} {β : Type} {K : β → mm_M → mm_E → Prop} {F : (Unit) → mm_M → mm_O β} {M : mm_M} {q : (β ⊕ Nat) × mm_M} {o : mm_E} (h : mm_B (mf_228_L18 v1 (v2, v3, v4, v6, v7) M) F = some q) (hA : mm_A K q o) (hx : ∀ (r : (Unit)) (M2 : mm_M), F r M2 = some q → (fun r M o => mp_228_180 L xs (d) M o) r M2 o) : mp_228_18 L xs d v1 v2 v3 v4 v6 v7 M o := by
  unfold mf_228_L18 at h
  exact mm_R_loop (step := (fun s M => mf_228_b18 v1 s.1 s.2.1 s.2.2.1 s.2.2.2.1 s.2.2.2.2 M)) (s := (v2, v3, v4, v6, v7)) (M := M) (P := (fun s M o => mp_228_18 L xs (d) v1 s.1 s.2.1 s.2.2.1 s.2.2.2.1 s.2.2.2.2 M o)) (X := (fun r M o => mp_228_180 L xs (d) M o)) h hA (fun s M q hq hA => ms_228_b18 (v1 := v1) (v2 := s.1) (v3 := s.2.1) (v4 := s.2.2.1) (v6 := s.2.2.2.1) (v7 := s.2.2.2.2) (M := M) (q := q) hd hq hA) hx
set_option maxRecDepth 8000 in
set_option maxHeartbeats 4000000 in
theorem ms_228 {L : Nat} {xs : Nat → Int32} {d : Nat} (hd : 4 ≤ d) {v1 : Int32} {M : mm_M} {q : (Unit ⊕ Nat) × mm_M} {o : mm_E} (h : mf_228 v1 M = some q) (hA : mm_A (mm_Kr mm_wv) q o) : mm_Runs L xs d 228 (0, mm_ent (mm_ml 228) [.ref 84, .int v1], [], M) o := by
  unfold mf_228 at h
  obtain ⟨d, rfl⟩ := mm_d1 (n := 3) hd
  show mm_Runs L xs (d + 1) 228 (0, [some (.ref 84), some (.int v1), none, none, none, none, none, none, none], [], M) o
  refine mm_Runs.seq (l := [(0, .aload_n 0, 1), (1, .iconst 0, 1), (2, .putfield 307, 3), (5, .iconst (-1), 1), (6, .istore_n 2, 1), (7, .iconst 0, 1), (8, .istore_n 3, 1), (9, .lconst 0, 1), (10, .lstore 4, 2), (12, .iconst 0, 1), (13, .istore 6, 2), (15, .iconst 1, 1), (16, .istore 7, 2)]) (S2 := (18, [some (.ref 84), some (.int v1), some (.int (-1 : Int32)), some (.int (0 : Int32)), some (.long (0 : Int64)), none, some (.int (0 : Int32)), some (.int (1 : Int32)), none], [], (mm_pi M 84 28 (0 : Int32)))) (by decide +kernel) (hO := mm_own_228) rfl ?_
  have hp : mp_228_18 L xs (d + 1) v1 (-1 : Int32) (0 : Int32) (0 : Int64) (0 : Int32) (1 : Int32) (mm_pi M 84 28 (0 : Int32)) o := by
    refine ms_228_L18 hd h hA (fun r2 M1 h => ?_)
    intro y3 y4 y5 y6 y7 y8 y9 y10 y11
    show mm_Runs L xs (d + 1) 228 (180, [y3, y4, y5, y6, y7, y8, y9, y10, y11], [], M1) o
    cases h
    exact mm_R_retv rfl rfl hA
  exact hp none none
-- 231: PlainPacksModel.walk(I)V (depth 2)
theorem mm_own_231 : mm_own 231 = 12 := rfl
def mp_231_4 (L : Nat) (xs : Nat → Int32) (d : Nat) (v1 : Int32) (v2 : Int32) (v3 : Int32) (M : mm_M) (o : mm_E) : Prop := ∀ z4 z5 z6 z7 z8 : Option Value, mm_Runs L xs d 231 (4, [some (.ref 84), some (.int v1), some (.int v2), some (.int v3), z4, z5, z6, z7, z8], [], M) o
def mp_231_64 (L : Nat) (xs : Nat → Int32) (d : Nat) (v1 : Int32) (M : mm_M) (o : mm_E) : Prop := ∀ z2 z3 z4 z5 z6 z7 z8 : Option Value, mm_Runs L xs d 231 (64, [some (.ref 84), some (.int v1), z2, z3, z4, z5, z6, z7, z8], [], M) o
def mp_231_21 (L : Nat) (xs : Nat → Int32) (d : Nat) (v1 : Int32) (v2 : Int32) (v3 : Int32) (v4 : Int32) (M : mm_M) (o : mm_E) : Prop := ∀ z5 z6 z7 z8 : Option Value, mm_Runs L xs d 231 (21, [some (.ref 84), some (.int v1), some (.int v2), some (.int v3), some (.int v4), z5, z6, z7, z8], [], M) o
def mp_231_58 (L : Nat) (xs : Nat → Int32) (d : Nat) (v1 : Int32) (v2 : Int32) (v3 : Int32) (M : mm_M) (o : mm_E) : Prop := ∀ z4 z5 z6 z7 z8 : Option Value, mm_Runs L xs d 231 (58, [some (.ref 84), some (.int v1), some (.int v2), some (.int v3), z4, z5, z6, z7, z8], [], M) o
set_option maxRecDepth 8000 in
set_option maxHeartbeats 4000000 in
theorem ms_231_b21 {L : Nat} {xs : Nat → Int32} {d : Nat} (hd : 2 ≤ d) {v1 : Int32} {v2 : Int32} {v3 : Int32} {v4 : Int32} {M : mm_M} {q : (((Int32 × Int32) ⊕ (Int32)) ⊕ Nat) × mm_M} {o : mm_E} (h : mf_231_b21 v1 v2 v3 v4 M = some q) (hA : mm_A (mm_K2 (fun s M o => mp_231_21 L xs (d) v1 s.1 v3 s.2 M o) (fun r M o => mp_231_58 L xs (d) v1 r v3 M o)) q o) : mp_231_21 L xs d v1 v2 v3 v4 M o := by
  unfold mf_231_b21 at h
  obtain ⟨d, rfl⟩ := mm_d1 (n := 1) hd
  intro z5 z6 z7 z8
  show mm_Runs L xs (d + 1) 231 (21, [some (.ref 84), some (.int v1), some (.int v2), some (.int v3), some (.int v4), z5, z6, z7, z8], [], M) o
  refine mm_Runs.seq (l := [(21, .iload 4, 2), (23, .aload_n 0, 1), (24, .getfield 307, 3)]) (S2 := (27, [some (.ref 84), some (.int v1), some (.int v2), some (.int v3), some (.int v4), z5, z6, z7, z8], [.int (M.1 84 28), .int v4], M)) (by decide +kernel) (hO := mm_own_231) rfl ?_
  refine mm_R_ige (t := 58) rfl rfl rfl (fun hc => ?_) (fun hc => ?_)
  · replace h := mm_ip hc h
    refine mm_Runs.seq (l := [(30, .aload_n 0, 1), (31, .getfield 41, 3), (34, .iload 4, 2)]) (S2 := (36, [some (.ref 84), some (.int v1), some (.int v2), some (.int v3), some (.int v4), z5, z6, z7, z8], [.int v4, .ref 95], M)) (by decide +kernel) (hO := mm_own_231) rfl ?_
    obtain ⟨hb, h⟩ := mm_gd h
    refine mm_R_iald rfl rfl hb ?_
    refine mm_Runs.seq (l := [(37, .iload_n 3, 1)]) (S2 := (38, [some (.ref 84), some (.int v1), some (.int v2), some (.int v3), some (.int v4), z5, z6, z7, z8], [.int v3, .int (M.1 95 v4.toNatClampNeg)], M)) (by decide +kernel) (hO := mm_own_231) rfl ?_
    refine mm_R_ine (t := 52) rfl rfl rfl (fun hc => ?_) (fun hc => ?_)
    · replace h := mm_ip hc h
      refine mm_Runs.seq (l := [(41, .aload_n 0, 1), (42, .getfield 44, 3), (45, .iload_n 2, 1), (46, .iload 4, 2)]) (S2 := (48, [some (.ref 84), some (.int v1), some (.int v2), some (.int v3), some (.int v4), z5, z6, z7, z8], [.int v4, .int v2, .ref 96], M)) (by decide +kernel) (hO := mm_own_231) rfl ?_
      obtain ⟨hb, h⟩ := mm_gd h
      refine mm_R_iast rfl rfl hb ?_
      refine mm_Runs.seq (l := [(49, .iinc 2 1, 3), (52, .iinc 4 1, 3), (55, .goto (-34), 3)]) (S2 := (21, [some (.ref 84), some (.int v1), some (.int (v2 + (1 : Int32))), some (.int v3), some (.int (v4 + (1 : Int32))), z5, z6, z7, z8], [], (mm_pi M 96 v2.toNatClampNeg v4))) (by decide +kernel) (hO := mm_own_231) rfl ?_
      cases h
      exact (show mp_231_21 L xs (d + 1) v1 (v2 + (1 : Int32)) v3 (v4 + (1 : Int32)) (mm_pi M 96 v2.toNatClampNeg v4) o from hA) z5 z6 z7 z8
    · replace h := mm_iq hc h
      refine mm_Runs.seq (l := [(52, .iinc 4 1, 3), (55, .goto (-34), 3)]) (S2 := (21, [some (.ref 84), some (.int v1), some (.int v2), some (.int v3), some (.int (v4 + (1 : Int32))), z5, z6, z7, z8], [], M)) (by decide +kernel) (hO := mm_own_231) rfl ?_
      cases h
      exact (show mp_231_21 L xs (d + 1) v1 v2 v3 (v4 + (1 : Int32)) M o from hA) z5 z6 z7 z8
  · replace h := mm_iq hc h
    cases h
    exact (show mp_231_58 L xs (d + 1) v1 v2 v3 M o from hA) (some (.int v4)) z5 z6 z7 z8
theorem ms_231_L21 {L : Nat} {xs : Nat → Int32} {d : Nat} (hd : 2 ≤ d) {v1 : Int32} {v2 : Int32} {v3 : Int32} {v4 : Int32} {β : Type} {K : β → mm_M → mm_E → Prop} {F : (Int32) → mm_M → mm_O β} {M : mm_M} {q : (β ⊕ Nat) × mm_M} {o : mm_E} (h : mm_B (mf_231_L21 v1 v3 (v2, v4) M) F = some q) (hA : mm_A K q o) (hx : ∀ (r : (Int32)) (M2 : mm_M), F r M2 = some q → (fun r M o => mp_231_58 L xs (d) v1 r v3 M o) r M2 o) : mp_231_21 L xs d v1 v2 v3 v4 M o := by
  unfold mf_231_L21 at h
  exact mm_R_loop (step := (fun s M => mf_231_b21 v1 s.1 v3 s.2 M)) (s := (v2, v4)) (M := M) (P := (fun s M o => mp_231_21 L xs (d) v1 s.1 v3 s.2 M o)) (X := (fun r M o => mp_231_58 L xs (d) v1 r v3 M o)) h hA (fun s M q hq hA => ms_231_b21 (v1 := v1) (v2 := s.1) (v3 := v3) (v4 := s.2) (M := M) (q := q) hd hq hA) hx
set_option maxRecDepth 8000 in
set_option maxHeartbeats 4000000 in
theorem ms_231_b4 {L : Nat} {xs : Nat → Int32} {d : Nat} (hd : 2 ≤ d) {v1 : Int32} {v2 : Int32} {v3 : Int32} {M : mm_M} {q : (((Int32 × Int32) ⊕ (Unit)) ⊕ Nat) × mm_M} {o : mm_E} (h : mf_231_b4 v1 v2 v3 M = some q) (hA : mm_A (mm_K2 (fun s M o => mp_231_4 L xs (d) v1 s.1 s.2 M o) (fun r M o => mp_231_64 L xs (d) v1 M o)) q o) : mp_231_4 L xs d v1 v2 v3 M o := by
  unfold mf_231_b4 at h
  obtain ⟨d, rfl⟩ := mm_d1 (n := 1) hd
  intro z4 z5 z6 z7 z8
  show mm_Runs L xs (d + 1) 231 (4, [some (.ref 84), some (.int v1), some (.int v2), some (.int v3), z4, z5, z6, z7, z8], [], M) o
  refine mm_Runs.seq (l := [(4, .iload_n 3, 1), (5, .sipush 256, 3)]) (S2 := (8, [some (.ref 84), some (.int v1), some (.int v2), some (.int v3), z4, z5, z6, z7, z8], [.int (256 : Int32), .int v3], M)) (by decide +kernel) (hO := mm_own_231) rfl ?_
  refine mm_R_ige (t := 64) rfl rfl rfl (fun hc => ?_) (fun hc => ?_)
  · replace h := mm_ip hc h
    refine mm_Runs.seq (l := [(11, .aload_n 0, 1), (12, .getfield 154, 3)]) (S2 := (15, [some (.ref 84), some (.int v1), some (.int v2), some (.int v3), z4, z5, z6, z7, z8], [.int (M.1 84 7)], M)) (by decide +kernel) (hO := mm_own_231) rfl ?_
    refine mm_R_zne (t := 64) rfl rfl rfl (fun hc => ?_) (fun hc => ?_)
    · replace h := mm_ip hc h
      refine mm_Runs.seq (l := [(18, .iconst 0, 1), (19, .istore 4, 2)]) (S2 := (21, [some (.ref 84), some (.int v1), some (.int v2), some (.int v3), some (.int (0 : Int32)), z5, z6, z7, z8], [], M)) (by decide +kernel) (hO := mm_own_231) rfl ?_
      have hp : mp_231_21 L xs (d + 1) v1 v2 v3 (0 : Int32) M o := by
        refine ms_231_L21 hd h hA (fun r2 M1 h => ?_)
        intro y3 y4 y5 y6 y7
        show mm_Runs L xs (d + 1) 231 (58, [some (.ref 84), some (.int v1), some (.int r2), some (.int v3), y3, y4, y5, y6, y7], [], M1) o
        refine mm_Runs.seq (l := [(58, .iinc 3 1, 3), (61, .goto (-57), 3)]) (S2 := (4, [some (.ref 84), some (.int v1), some (.int r2), some (.int (v3 + (1 : Int32))), y3, y4, y5, y6, y7], [], M1)) (by decide +kernel) (hO := mm_own_231) rfl ?_
        cases h
        exact (show mp_231_4 L xs (d + 1) v1 r2 (v3 + (1 : Int32)) M1 o from hA) y3 y4 y5 y6 y7
      exact hp z5 z6 z7 z8
    · replace h := mm_iq hc h
      cases h
      exact (show mp_231_64 L xs (d + 1) v1 M o from hA) (some (.int v2)) (some (.int v3)) z4 z5 z6 z7 z8
  · replace h := mm_iq hc h
    cases h
    exact (show mp_231_64 L xs (d + 1) v1 M o from hA) (some (.int v2)) (some (.int v3)) z4 z5 z6 z7 z8
theorem ms_231_L4 {L : Nat} {xs : Nat → Int32} {d : Nat} (hd : 2 ≤ d) {v1 : Int32} {v2 : Int32} {v3 : Int32} {β : Type} {K : β → mm_M → mm_E → Prop} {F : (Unit) → mm_M → mm_O β} {M : mm_M} {q : (β ⊕ Nat) × mm_M} {o : mm_E} (h : mm_B (mf_231_L4 v1 (v2, v3) M) F = some q) (hA : mm_A K q o) (hx : ∀ (r : (Unit)) (M2 : mm_M), F r M2 = some q → (fun r M o => mp_231_64 L xs (d) v1 M o) r M2 o) : mp_231_4 L xs d v1 v2 v3 M o := by
  unfold mf_231_L4 at h
  exact mm_R_loop (step := (fun s M => mf_231_b4 v1 s.1 s.2 M)) (s := (v2, v3)) (M := M) (P := (fun s M o => mp_231_4 L xs (d) v1 s.1 s.2 M o)) (X := (fun r M o => mp_231_64 L xs (d) v1 M o)) h hA (fun s M q hq hA => ms_231_b4 (v1 := v1) (v2 := s.1) (v3 := s.2) (M := M) (q := q) hd hq hA) hx
def mp_231_91 (L : Nat) (xs : Nat → Int32) (d : Nat) (v3 : Int32) (v4 : Int32) (v5 : Int32) (v6 : Int32) (M : mm_M) (o : mm_E) : Prop := ∀ z1 z2 z7 z8 : Option Value, mm_Runs L xs d 231 (91, [some (.ref 84), z1, z2, some (.int v3), some (.int v4), some (.int v5), some (.int v6), z7, z8], [], M) o
def mp_231_201 (L : Nat) (xs : Nat → Int32) (d : Nat) (M : mm_M) (o : mm_E) : Prop := ∀ z0 z1 z2 z3 z4 z5 z6 z7 z8 : Option Value, mm_Runs L xs d 231 (201, [z0, z1, z2, z3, z4, z5, z6, z7, z8], [], M) o
def mp_231_124 (L : Nat) (xs : Nat → Int32) (d : Nat) (v3 : Int32) (v5 : Int32) (v6 : Int32) (v7 : Int32) (v8 : Int32) (M : mm_M) (o : mm_E) : Prop := ∀ z1 z2 z4 : Option Value, mm_Runs L xs d 231 (124, [some (.ref 84), z1, z2, some (.int v3), z4, some (.int v5), some (.int v6), some (.int v7), some (.int v8)], [], M) o
def mp_231_151 (L : Nat) (xs : Nat → Int32) (d : Nat) (v3 : Int32) (v6 : Int32) (M : mm_M) (o : mm_E) : Prop := ∀ z1 z2 z4 z5 z7 z8 : Option Value, mm_Runs L xs d 231 (151, [some (.ref 84), z1, z2, some (.int v3), z4, z5, some (.int v6), z7, z8], [], M) o
set_option maxRecDepth 8000 in
set_option maxHeartbeats 4000000 in
theorem ms_231_b124 {L : Nat} {xs : Nat → Int32} {d : Nat} (hd : 2 ≤ d) {v3 : Int32} {v5 : Int32} {v6 : Int32} {v7 : Int32} {v8 : Int32} {M : mm_M} {q : (((Int32) ⊕ (Unit)) ⊕ Nat) × mm_M} {o : mm_E} (h : mf_231_b124 v3 v5 v6 v7 v8 M = some q) (hA : mm_A (mm_K2 (fun s M o => mp_231_124 L xs (d) v3 v5 v6 v7 s M o) (fun r M o => mp_231_151 L xs (d) v3 v6 M o)) q o) : mp_231_124 L xs d v3 v5 v6 v7 v8 M o := by
  unfold mf_231_b124 at h
  obtain ⟨d, rfl⟩ := mm_d1 (n := 1) hd
  intro z1 z2 z4
  show mm_Runs L xs (d + 1) 231 (124, [some (.ref 84), z1, z2, some (.int v3), z4, some (.int v5), some (.int v6), some (.int v7), some (.int v8)], [], M) o
  refine mm_Runs.seq (l := [(124, .iload 8, 2), (126, .iload 7, 2)]) (S2 := (128, [some (.ref 84), z1, z2, some (.int v3), z4, some (.int v5), some (.int v6), some (.int v7), some (.int v8)], [.int v7, .int v8], M)) (by decide +kernel) (hO := mm_own_231) rfl ?_
  refine mm_R_ige (t := 151) rfl rfl rfl (fun hc => ?_) (fun hc => ?_)
  · replace h := mm_ip hc h
    refine mm_Runs.seq (l := [(131, .aload_n 0, 1), (132, .getfield 154, 3)]) (S2 := (135, [some (.ref 84), z1, z2, some (.int v3), z4, some (.int v5), some (.int v6), some (.int v7), some (.int v8)], [.int (M.1 84 7)], M)) (by decide +kernel) (hO := mm_own_231) rfl ?_
    refine mm_R_zne (t := 151) rfl rfl rfl (fun hc => ?_) (fun hc => ?_)
    · replace h := mm_ip hc h
      refine mm_Runs.seq (l := [(138, .aload_n 0, 1), (139, .iload 5, 2)]) (S2 := (141, [some (.ref 84), z1, z2, some (.int v3), z4, some (.int v5), some (.int v6), some (.int v7), some (.int v8)], [.int v5, .ref 84], M)) (by decide +kernel) (hO := mm_own_231) rfl ?_
      refine mm_R_call (v := mm_wi) h hA (k2 := 194) (as := [.ref 84, .int v5]) (r := []) rfl (fun _ => rfl) (fun q hq o ho => ms_194 (by omega) hq ho) (fun r1 M2 h => ?_)
      show mm_Runs L xs (d + 1) 231 (144, [some (.ref 84), z1, z2, some (.int v3), z4, some (.int v5), some (.int v6), some (.int v7), some (.int v8)], [.int r1], M2) o
      refine mm_Runs.seq (l := [(144, .pop, 1), (145, .iinc 8 1, 3), (148, .goto (-24), 3)]) (S2 := (124, [some (.ref 84), z1, z2, some (.int v3), z4, some (.int v5), some (.int v6), some (.int v7), some (.int (v8 + (1 : Int32)))], [], M2)) (by decide +kernel) (hO := mm_own_231) rfl ?_
      cases h
      exact (show mp_231_124 L xs (d + 1) v3 v5 v6 v7 (v8 + (1 : Int32)) M2 o from hA) z1 z2 z4
    · replace h := mm_iq hc h
      cases h
      exact (show mp_231_151 L xs (d + 1) v3 v6 M o from hA) z1 z2 z4 (some (.int v5)) (some (.int v7)) (some (.int v8))
  · replace h := mm_iq hc h
    cases h
    exact (show mp_231_151 L xs (d + 1) v3 v6 M o from hA) z1 z2 z4 (some (.int v5)) (some (.int v7)) (some (.int v8))
theorem ms_231_L124 {L : Nat} {xs : Nat → Int32} {d : Nat} (hd : 2 ≤ d) {v3 : Int32} {v5 : Int32} {v6 : Int32} {v7 : Int32} {v8 : Int32} {β : Type} {K : β → mm_M → mm_E → Prop} {F : (Unit) → mm_M → mm_O β} {M : mm_M} {q : (β ⊕ Nat) × mm_M} {o : mm_E} (h : mm_B (mf_231_L124 v3 v5 v6 v7 v8 M) F = some q) (hA : mm_A K q o) (hx : ∀ (r : (Unit)) (M2 : mm_M), F r M2 = some q → (fun r M o => mp_231_151 L xs (d) v3 v6 M o) r M2 o) : mp_231_124 L xs d v3 v5 v6 v7 v8 M o := by
  unfold mf_231_L124 at h
  exact mm_R_loop (step := (fun s M => mf_231_b124 v3 v5 v6 v7 s M)) (s := v8) (M := M) (P := (fun s M o => mp_231_124 L xs (d) v3 v5 v6 v7 s M o)) (X := (fun r M o => mp_231_151 L xs (d) v3 v6 M o)) h hA (fun s M q hq hA => ms_231_b124 (v3 := v3) (v5 := v5) (v6 := v6) (v7 := v7) (v8 := s) (M := M) (q := q) hd hq hA) hx
def mp_231_188 (L : Nat) (xs : Nat → Int32) (d : Nat) (v3 : Int32) (v4 : Int32) (v5 : Int32) (v6 : Int32) (M : mm_M) (o : mm_E) : Prop := ∀ z1 z2 z7 z8 : Option Value, mm_Runs L xs d 231 (188, [some (.ref 84), z1, z2, some (.int v3), some (.int v4), some (.int v5), some (.int v6), z7, z8], [], M) o
set_option maxRecDepth 8000 in
set_option maxHeartbeats 4000000 in
theorem ms_231_j188 {L : Nat} {xs : Nat → Int32} {d : Nat} (hd : 2 ≤ d) {v3 : Int32} {v4 : Int32} {v5 : Int32} {v6 : Int32} {M : mm_M} {q : (((Int32 × Int32 × Int32 × Int32) ⊕ (Unit)) ⊕ Nat) × mm_M} {o : mm_E} (h : mf_231_j188 v3 v4 v5 v6 M = some q) (hA : mm_A (mm_K2 (fun s M o => mp_231_91 L xs (d) s.1 s.2.1 s.2.2.1 s.2.2.2 M o) (fun r M o => mp_231_201 L xs (d) M o)) q o) : mp_231_188 L xs d v3 v4 v5 v6 M o := by
  unfold mf_231_j188 at h
  obtain ⟨d, rfl⟩ := mm_d1 (n := 1) hd
  intro z1 z2 z7 z8
  show mm_Runs L xs (d + 1) 231 (188, [some (.ref 84), z1, z2, some (.int v3), some (.int v4), some (.int v5), some (.int v6), z7, z8], [], M) o
  refine mm_Runs.seq (l := [(188, .aload_n 0, 1), (189, .getfield 44, 3), (192, .iload_n 3, 1)]) (S2 := (193, [some (.ref 84), z1, z2, some (.int v3), some (.int v4), some (.int v5), some (.int v6), z7, z8], [.int v3, .ref 96], M)) (by decide +kernel) (hO := mm_own_231) rfl ?_
  obtain ⟨hb, h⟩ := mm_gd h
  refine mm_R_iald rfl rfl hb ?_
  refine mm_Runs.seq (l := [(194, .istore_n 3, 1), (195, .iinc 6 1, 3), (198, .goto (-107), 3)]) (S2 := (91, [some (.ref 84), z1, (mm_no2 z2), some (.int (M.1 96 v3.toNatClampNeg)), some (.int v4), some (.int v5), some (.int (v6 + (1 : Int32))), z7, z8], [], M)) (by decide +kernel) (hO := mm_own_231) rfl ?_
  cases h
  exact (show mp_231_91 L xs (d + 1) (M.1 96 v3.toNatClampNeg) v4 v5 (v6 + (1 : Int32)) M o from hA) z1 ((mm_no2 z2)) z7 z8
def mp_231_175 (L : Nat) (xs : Nat → Int32) (d : Nat) (v3 : Int32) (v6 : Int32) (v7 : Int32) (s0 : Int32) (M : mm_M) (o : mm_E) : Prop := ∀ z1 z2 z4 z5 z8 : Option Value, mm_Runs L xs d 231 (175, [some (.ref 84), z1, z2, some (.int v3), z4, z5, some (.int v6), some (.int v7), z8], [.int s0], M) o
set_option maxRecDepth 8000 in
set_option maxHeartbeats 4000000 in
theorem ms_231_j175 {L : Nat} {xs : Nat → Int32} {d : Nat} (hd : 2 ≤ d) {v3 : Int32} {v6 : Int32} {v7 : Int32} {s0 : Int32} {M : mm_M} {q : (((Int32 × Int32 × Int32 × Int32) ⊕ (Unit)) ⊕ Nat) × mm_M} {o : mm_E} (h : mf_231_j175 v3 v6 v7 s0 M = some q) (hA : mm_A (mm_K2 (fun s M o => mp_231_91 L xs (d) s.1 s.2.1 s.2.2.1 s.2.2.2 M o) (fun r M o => mp_231_201 L xs (d) M o)) q o) : mp_231_175 L xs d v3 v6 v7 s0 M o := by
  unfold mf_231_j175 at h
  obtain ⟨d, rfl⟩ := mm_d1 (n := 1) hd
  intro z1 z2 z4 z5 z8
  show mm_Runs L xs (d + 1) 231 (175, [some (.ref 84), z1, z2, some (.int v3), z4, z5, some (.int v6), some (.int v7), z8], [.int s0], M) o
  refine mm_Runs.seq (l := [(175, .istore 4, 2), (177, .iload 7, 2), (179, .istore 5, 2), (181, .aload_n 0, 1), (182, .iload 7, 2)]) (S2 := (184, [some (.ref 84), z1, z2, some (.int v3), some (.int s0), some (.int v7), some (.int v6), some (.int v7), z8], [.int v7, .ref 84], M)) (by decide +kernel) (hO := mm_own_231) rfl ?_
  refine mm_R_call (v := mm_wi) h hA (k2 := 194) (as := [.ref 84, .int v7]) (r := []) rfl (fun _ => rfl) (fun q hq o ho => ms_194 (by omega) hq ho) (fun r1 M2 h => ?_)
  show mm_Runs L xs (d + 1) 231 (187, [some (.ref 84), z1, z2, some (.int v3), some (.int s0), some (.int v7), some (.int v6), some (.int v7), z8], [.int r1], M2) o
  refine mm_Runs.seq (l := [(187, .pop, 1)]) (S2 := (188, [some (.ref 84), z1, z2, some (.int v3), some (.int s0), some (.int v7), some (.int v6), some (.int v7), z8], [], M2)) (by decide +kernel) (hO := mm_own_231) rfl ?_
  exact (ms_231_j188 hd h hA : mp_231_188 L xs (d + 1) v3 s0 v7 v6 M2 o) z1 z2 (some (.int v7)) z8
set_option maxRecDepth 8000 in
set_option maxHeartbeats 4000000 in
theorem ms_231_b91 {L : Nat} {xs : Nat → Int32} {d : Nat} (hd : 2 ≤ d) {v3 : Int32} {v4 : Int32} {v5 : Int32} {v6 : Int32} {M : mm_M} {q : (((Int32 × Int32 × Int32 × Int32) ⊕ (Unit)) ⊕ Nat) × mm_M} {o : mm_E} (h : mf_231_b91 v3 v4 v5 v6 M = some q) (hA : mm_A (mm_K2 (fun s M o => mp_231_91 L xs (d) s.1 s.2.1 s.2.2.1 s.2.2.2 M o) (fun r M o => mp_231_201 L xs (d) M o)) q o) : mp_231_91 L xs d v3 v4 v5 v6 M o := by
  unfold mf_231_b91 at h
  obtain ⟨d, rfl⟩ := mm_d1 (n := 1) hd
  intro z1 z2 z7 z8
  show mm_Runs L xs (d + 1) 231 (91, [some (.ref 84), z1, z2, some (.int v3), some (.int v4), some (.int v5), some (.int v6), z7, z8], [], M) o
  refine mm_Runs.seq (l := [(91, .iload 6, 2), (93, .aload_n 0, 1), (94, .getfield 307, 3)]) (S2 := (97, [some (.ref 84), z1, z2, some (.int v3), some (.int v4), some (.int v5), some (.int v6), z7, z8], [.int (M.1 84 28), .int v6], M)) (by decide +kernel) (hO := mm_own_231) rfl ?_
  refine mm_R_ige (t := 201) rfl rfl rfl (fun hc => ?_) (fun hc => ?_)
  · replace h := mm_ip hc h
    refine mm_Runs.seq (l := [(100, .aload_n 0, 1), (101, .getfield 154, 3)]) (S2 := (104, [some (.ref 84), z1, z2, some (.int v3), some (.int v4), some (.int v5), some (.int v6), z7, z8], [.int (M.1 84 7)], M)) (by decide +kernel) (hO := mm_own_231) rfl ?_
    refine mm_R_zne (t := 201) rfl rfl rfl (fun hc => ?_) (fun hc => ?_)
    · replace h := mm_ip hc h
      refine mm_Runs.seq (l := [(107, .aload_n 0, 1), (108, .getfield 41, 3), (111, .iload_n 3, 1)]) (S2 := (112, [some (.ref 84), z1, z2, some (.int v3), some (.int v4), some (.int v5), some (.int v6), z7, z8], [.int v3, .ref 95], M)) (by decide +kernel) (hO := mm_own_231) rfl ?_
      obtain ⟨hb, h⟩ := mm_gd h
      refine mm_R_iald rfl rfl hb ?_
      refine mm_Runs.seq (l := [(113, .istore 7, 2), (115, .iload 4, 2), (117, .iconst 4, 1)]) (S2 := (118, [some (.ref 84), z1, z2, some (.int v3), some (.int v4), some (.int v5), some (.int v6), some (.int (M.1 95 v3.toNatClampNeg)), z8], [.int (4 : Int32), .int v4], M)) (by decide +kernel) (hO := mm_own_231) rfl ?_
      refine mm_R_ine (t := 160) rfl rfl rfl (fun hc => ?_) (fun hc => ?_)
      · replace h := mm_ip hc h
        refine mm_Runs.seq (l := [(121, .iconst 0, 1), (122, .istore 8, 2)]) (S2 := (124, [some (.ref 84), z1, z2, some (.int v3), some (.int v4), some (.int v5), some (.int v6), some (.int (M.1 95 v3.toNatClampNeg)), some (.int (0 : Int32))], [], M)) (by decide +kernel) (hO := mm_own_231) rfl ?_
        have hp : mp_231_124 L xs (d + 1) v3 v5 v6 (M.1 95 v3.toNatClampNeg) (0 : Int32) M o := by
          refine ms_231_L124 hd h hA (fun r2 M1 h => ?_)
          intro y3 y4 y5 y6 y7 y8
          show mm_Runs L xs (d + 1) 231 (151, [some (.ref 84), y3, y4, some (.int v3), y5, y6, some (.int v6), y7, y8], [], M1) o
          refine mm_Runs.seq (l := [(151, .iconst 0, 1), (152, .istore 4, 2), (154, .iconst (-1), 1), (155, .istore 5, 2), (157, .goto 31, 3)]) (S2 := (188, [some (.ref 84), y3, y4, some (.int v3), some (.int (0 : Int32)), some (.int (-1 : Int32)), some (.int v6), y7, y8], [], M1)) (by decide +kernel) (hO := mm_own_231) rfl ?_
          exact (ms_231_j188 hd h hA : mp_231_188 L xs (d + 1) v3 (0 : Int32) (-1 : Int32) v6 M1 o) y3 y4 y7 y8
        exact hp z1 z2 (some (.int v4))
      · replace h := mm_iq hc h
        refine mm_Runs.seq (l := [(160, .iload 7, 2), (162, .iload 5, 2)]) (S2 := (164, [some (.ref 84), z1, z2, some (.int v3), some (.int v4), some (.int v5), some (.int v6), some (.int (M.1 95 v3.toNatClampNeg)), z8], [.int v5, .int (M.1 95 v3.toNatClampNeg)], M)) (by decide +kernel) (hO := mm_own_231) rfl ?_
        refine mm_R_ine (t := 174) rfl rfl rfl (fun hc => ?_) (fun hc => ?_)
        · replace h := mm_ip hc h
          refine mm_Runs.seq (l := [(167, .iload 4, 2), (169, .iconst 1, 1), (170, .iadd, 1), (171, .goto 4, 3)]) (S2 := (175, [some (.ref 84), z1, z2, some (.int v3), some (.int v4), some (.int v5), some (.int v6), some (.int (M.1 95 v3.toNatClampNeg)), z8], [.int (v4 + (1 : Int32))], M)) (by decide +kernel) (hO := mm_own_231) rfl ?_
          exact (ms_231_j175 hd h hA : mp_231_175 L xs (d + 1) v3 v6 (M.1 95 v3.toNatClampNeg) (v4 + (1 : Int32)) M o) z1 z2 (some (.int v4)) (some (.int v5)) z8
        · replace h := mm_iq hc h
          refine mm_Runs.seq (l := [(174, .iconst 1, 1)]) (S2 := (175, [some (.ref 84), z1, z2, some (.int v3), some (.int v4), some (.int v5), some (.int v6), some (.int (M.1 95 v3.toNatClampNeg)), z8], [.int (1 : Int32)], M)) (by decide +kernel) (hO := mm_own_231) rfl ?_
          exact (ms_231_j175 hd h hA : mp_231_175 L xs (d + 1) v3 v6 (M.1 95 v3.toNatClampNeg) (1 : Int32) M o) z1 z2 (some (.int v4)) (some (.int v5)) z8
    · replace h := mm_iq hc h
      cases h
      exact (show mp_231_201 L xs (d + 1) M o from hA) (some (.ref 84)) z1 z2 (some (.int v3)) (some (.int v4)) (some (.int v5)) (some (.int v6)) z7 z8
  · replace h := mm_iq hc h
    cases h
    exact (show mp_231_201 L xs (d + 1) M o from hA) (some (.ref 84)) z1 z2 (some (.int v3)) (some (.int v4)) (some (.int v5)) (some (.int v6)) z7 z8
theorem ms_231_L91 {L : Nat} {xs : Nat → Int32} {d : Nat} (hd : 2 ≤ d) {v3 : Int32} {v4 : Int32} {v5 : Int32} {v6 : Int32} {β : Type} {K : β → mm_M → mm_E → Prop} {F : (Unit) → mm_M → mm_O β} {M : mm_M} {q : (β ⊕ Nat) × mm_M} {o : mm_E} (h : mm_B (mf_231_L91 (v3, v4, v5, v6) M) F = some q) (hA : mm_A K q o) (hx : ∀ (r : (Unit)) (M2 : mm_M), F r M2 = some q → (fun r M o => mp_231_201 L xs (d) M o) r M2 o) : mp_231_91 L xs d v3 v4 v5 v6 M o := by
  unfold mf_231_L91 at h
  exact mm_R_loop (step := (fun s M => mf_231_b91 s.1 s.2.1 s.2.2.1 s.2.2.2 M)) (s := (v3, v4, v5, v6)) (M := M) (P := (fun s M o => mp_231_91 L xs (d) s.1 s.2.1 s.2.2.1 s.2.2.2 M o)) (X := (fun r M o => mp_231_201 L xs (d) M o)) h hA (fun s M q hq hA => ms_231_b91 (v3 := s.1) (v4 := s.2.1) (v5 := s.2.2.1) (v6 := s.2.2.2) (M := M) (q := q) hd hq hA) hx
set_option maxRecDepth 8000 in
set_option maxHeartbeats 4000000 in
theorem ms_231_j64 {L : Nat} {xs : Nat → Int32} {d : Nat} (hd : 2 ≤ d) {v1 : Int32} {M : mm_M} {q : (Unit ⊕ Nat) × mm_M} {o : mm_E} (h : mf_231_j64 v1 M = some q) (hA : mm_A (mm_Kr mm_wv) q o) : mp_231_64 L xs d v1 M o := by
  unfold mf_231_j64 at h
  obtain ⟨d, rfl⟩ := mm_d1 (n := 1) hd
  intro z2 z3 z4 z5 z6 z7 z8
  show mm_Runs L xs (d + 1) 231 (64, [some (.ref 84), some (.int v1), z2, z3, z4, z5, z6, z7, z8], [], M) o
  refine mm_Runs.seq (l := [(64, .aload_n 0, 1), (65, .getfield 154, 3)]) (S2 := (68, [some (.ref 84), some (.int v1), z2, z3, z4, z5, z6, z7, z8], [.int (M.1 84 7)], M)) (by decide +kernel) (hO := mm_own_231) rfl ?_
  refine mm_R_zeq (t := 75) rfl rfl rfl (fun hc => ?_) (fun hc => ?_)
  · replace h := mm_ip hc h
    refine mm_Runs.seq (l := [(75, .aload_n 0, 1), (76, .getfield 44, 3), (79, .iload_n 1, 1)]) (S2 := (80, [some (.ref 84), some (.int v1), z2, z3, z4, z5, z6, z7, z8], [.int v1, .ref 96], M)) (by decide +kernel) (hO := mm_own_231) rfl ?_
    obtain ⟨hb, h⟩ := mm_gd h
    refine mm_R_iald rfl rfl hb ?_
    refine mm_Runs.seq (l := [(81, .istore_n 3, 1), (82, .iconst 0, 1), (83, .istore 4, 2), (85, .iconst (-1), 1), (86, .istore 5, 2), (88, .iconst 0, 1), (89, .istore 6, 2)]) (S2 := (91, [some (.ref 84), some (.int v1), (mm_no2 z2), some (.int (M.1 96 v1.toNatClampNeg)), some (.int (0 : Int32)), some (.int (-1 : Int32)), some (.int (0 : Int32)), z7, z8], [], M)) (by decide +kernel) (hO := mm_own_231) rfl ?_
    have hp : mp_231_91 L xs (d + 1) (M.1 96 v1.toNatClampNeg) (0 : Int32) (-1 : Int32) (0 : Int32) M o := by
      refine ms_231_L91 hd h hA (fun r2 M1 h => ?_)
      intro y3 y4 y5 y6 y7 y8 y9 y10 y11
      show mm_Runs L xs (d + 1) 231 (201, [y3, y4, y5, y6, y7, y8, y9, y10, y11], [], M1) o
      cases h
      exact mm_R_retv rfl rfl hA
    exact hp (some (.int v1)) ((mm_no2 z2)) z7 z8
  · replace h := mm_iq hc h
    refine mm_Runs.seq (l := [(71, .iconst 0, 1), (72, .goto 9, 3), (81, .istore_n 3, 1), (82, .iconst 0, 1), (83, .istore 4, 2), (85, .iconst (-1), 1), (86, .istore 5, 2), (88, .iconst 0, 1), (89, .istore 6, 2)]) (S2 := (91, [some (.ref 84), some (.int v1), (mm_no2 z2), some (.int (0 : Int32)), some (.int (0 : Int32)), some (.int (-1 : Int32)), some (.int (0 : Int32)), z7, z8], [], M)) (by decide +kernel) (hO := mm_own_231) rfl ?_
    have hp : mp_231_91 L xs (d + 1) (0 : Int32) (0 : Int32) (-1 : Int32) (0 : Int32) M o := by
      refine ms_231_L91 hd h hA (fun r13 M12 h => ?_)
      intro y14 y15 y16 y17 y18 y19 y20 y21 y22
      show mm_Runs L xs (d + 1) 231 (201, [y14, y15, y16, y17, y18, y19, y20, y21, y22], [], M12) o
      cases h
      exact mm_R_retv rfl rfl hA
    exact hp (some (.int v1)) ((mm_no2 z2)) z7 z8
set_option maxRecDepth 8000 in
set_option maxHeartbeats 4000000 in
theorem ms_231 {L : Nat} {xs : Nat → Int32} {d : Nat} (hd : 2 ≤ d) {v1 : Int32} {M : mm_M} {q : (Unit ⊕ Nat) × mm_M} {o : mm_E} (h : mf_231 v1 M = some q) (hA : mm_A (mm_Kr mm_wv) q o) : mm_Runs L xs d 231 (0, mm_ent (mm_ml 231) [.ref 84, .int v1], [], M) o := by
  unfold mf_231 at h
  obtain ⟨d, rfl⟩ := mm_d1 (n := 1) hd
  show mm_Runs L xs (d + 1) 231 (0, [some (.ref 84), some (.int v1), none, none, none, none, none, none, none], [], M) o
  refine mm_Runs.seq (l := [(0, .iconst 0, 1), (1, .istore_n 2, 1), (2, .iconst 0, 1), (3, .istore_n 3, 1)]) (S2 := (4, [some (.ref 84), some (.int v1), some (.int (0 : Int32)), some (.int (0 : Int32)), none, none, none, none, none], [], M)) (by decide +kernel) (hO := mm_own_231) rfl ?_
  have hp : mp_231_4 L xs (d + 1) v1 (0 : Int32) (0 : Int32) M o := by
    refine ms_231_L4 hd h hA (fun r2 M1 h => ?_)
    intro y3 y4 y5 y6 y7 y8 y9
    show mm_Runs L xs (d + 1) 231 (64, [some (.ref 84), some (.int v1), y3, y4, y5, y6, y7, y8, y9], [], M1) o
    exact (ms_231_j64 hd h hA : mp_231_64 L xs (d + 1) v1 M1 o) y3 y4 y5 y6 y7 y8 y9
  exact hp none none none none none
