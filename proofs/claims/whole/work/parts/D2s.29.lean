/-! MEANINGS ARE SOUND 29 -/
-- 157: PlainPacks$Sorted.anyOfSixteen(I)Z (depth 0)
theorem mm_own_157 : mm_own 157 = 10 := rfl
def mp_157_4 (L : Nat) (xs : Nat → Int32) (d : Nat) (v1 : Int32) (v2 : Int32) (v3 : Int32) (M : mm_M) (o : mm_E) : Prop := mm_Runs L xs d 157 (4, [some (.ref 42), some (.int v1), some (.int v2), some (.int v3)], [], M) o
def mp_157_38 (L : Nat) (xs : Nat → Int32) (d : Nat) (v2 : Int32) (M : mm_M) (o : mm_E) : Prop := ∀ z0 z1 z3 : Option Value, mm_Runs L xs d 157 (38, [z0, z1, some (.int v2), z3], [], M) o
set_option maxRecDepth 8000 in
set_option maxHeartbeats 4000000 in
theorem ms_157_b4 {L : Nat} {xs : Nat → Int32} {d : Nat} (hd : 0 ≤ d) {v1 : Int32} {v2 : Int32} {v3 : Int32} {M : mm_M} {q : (((Int32 × Int32) ⊕ (Int32)) ⊕ Nat) × mm_M} {o : mm_E} (h : mf_157_b4 v1 v2 v3 M = some q) (hA : mm_A (mm_K2 (fun s M o => mp_157_4 L xs (d) v1 s.1 s.2 M o) (fun r M o => mp_157_38 L xs (d) r M o)) q o) : mp_157_4 L xs d v1 v2 v3 M o := by
  unfold mf_157_b4 at h
  show mm_Runs L xs (d) 157 (4, [some (.ref 42), some (.int v1), some (.int v2), some (.int v3)], [], M) o
  refine mm_Runs.seq (l := [(4, .iload_n 3, 1), (5, .bipush 16, 2)]) (S2 := (7, [some (.ref 42), some (.int v1), some (.int v2), some (.int v3)], [.int (16 : Int32), .int v3], M)) (by decide +kernel) (hO := mm_own_157) rfl ?_
  refine mm_R_ige (t := 38) rfl rfl rfl (fun hc => ?_) (fun hc => ?_)
  · replace h := mm_ip hc h
    refine mm_Runs.seq (l := [(10, .iload_n 2, 1), (11, .aload_n 0, 1), (12, .getfield 33, 3), (15, .bipush 16, 2), (17, .iload_n 1, 1), (18, .imul, 1), (19, .iload_n 3, 1), (20, .iadd, 1)]) (S2 := (21, [some (.ref 42), some (.int v1), some (.int v2), some (.int v3)], [.int (((16 : Int32) * v1) + v3), .ref 49, .int v2], M)) (by decide +kernel) (hO := mm_own_157) rfl ?_
    obtain ⟨hb, h⟩ := mm_gd h
    refine mm_R_iald rfl rfl hb ?_
    refine mm_R_zle (t := 29) rfl rfl rfl (fun hc => ?_) (fun hc => ?_)
    · replace h := mm_ip hc h
      refine mm_Runs.seq (l := [(25, .iconst 1, 1), (26, .goto 4, 3), (30, .ior, 1), (31, .istore_n 2, 1), (32, .iinc 3 1, 3), (35, .goto (-31), 3)]) (S2 := (4, [some (.ref 42), some (.int v1), some (.int (v2 ||| (1 : Int32))), some (.int (v3 + (1 : Int32)))], [], M)) (by decide +kernel) (hO := mm_own_157) rfl ?_
      cases h
      exact (show mp_157_4 L xs (d) v1 (v2 ||| (1 : Int32)) (v3 + (1 : Int32)) M o from hA)
    · replace h := mm_iq hc h
      refine mm_Runs.seq (l := [(29, .iconst 0, 1), (30, .ior, 1), (31, .istore_n 2, 1), (32, .iinc 3 1, 3), (35, .goto (-31), 3)]) (S2 := (4, [some (.ref 42), some (.int v1), some (.int (v2 ||| (0 : Int32))), some (.int (v3 + (1 : Int32)))], [], M)) (by decide +kernel) (hO := mm_own_157) rfl ?_
      cases h
      exact (show mp_157_4 L xs (d) v1 (v2 ||| (0 : Int32)) (v3 + (1 : Int32)) M o from hA)
  · replace h := mm_iq hc h
    cases h
    exact (show mp_157_38 L xs (d) v2 M o from hA) (some (.ref 42)) (some (.int v1)) (some (.int v3))
theorem ms_157_L4 {L : Nat} {xs : Nat → Int32} {d : Nat} (hd : 0 ≤ d) {v1 : Int32} {v2 : Int32} {v3 : Int32} {β : Type} {K : β → mm_M → mm_E → Prop} {F : (Int32) → mm_M → mm_O β} {M : mm_M} {q : (β ⊕ Nat) × mm_M} {o : mm_E} (h : mm_B (mf_157_L4 v1 (v2, v3) M) F = some q) (hA : mm_A K q o) (hx : ∀ (r : (Int32)) (M2 : mm_M), F r M2 = some q → (fun r M o => mp_157_38 L xs (d) r M o) r M2 o) : mp_157_4 L xs d v1 v2 v3 M o := by
  unfold mf_157_L4 at h
  exact mm_R_loop (step := (fun s M => mf_157_b4 v1 s.1 s.2 M)) (s := (v2, v3)) (M := M) (P := (fun s M o => mp_157_4 L xs (d) v1 s.1 s.2 M o)) (X := (fun r M o => mp_157_38 L xs (d) r M o)) h hA (fun s M q hq hA => ms_157_b4 (v1 := v1) (v2 := s.1) (v3 := s.2) (M := M) (q := q) hd hq hA) hx
set_option maxRecDepth 8000 in
set_option maxHeartbeats 4000000 in
theorem ms_157 {L : Nat} {xs : Nat → Int32} {d : Nat} (hd : 0 ≤ d) {v1 : Int32} {M : mm_M} {q : (Int32 ⊕ Nat) × mm_M} {o : mm_E} (h : mf_157 v1 M = some q) (hA : mm_A (mm_Kr mm_wi) q o) : mm_Runs L xs d 157 (0, mm_ent (mm_ml 157) [.ref 42, .int v1], [], M) o := by
  unfold mf_157 at h
  show mm_Runs L xs (d) 157 (0, [some (.ref 42), some (.int v1), none, none], [], M) o
  refine mm_Runs.seq (l := [(0, .iconst 0, 1), (1, .istore_n 2, 1), (2, .iconst 0, 1), (3, .istore_n 3, 1)]) (S2 := (4, [some (.ref 42), some (.int v1), some (.int (0 : Int32)), some (.int (0 : Int32))], [], M)) (by decide +kernel) (hO := mm_own_157) rfl ?_
  have hp : mp_157_4 L xs (d) v1 (0 : Int32) (0 : Int32) M o := by
    refine ms_157_L4 hd h hA (fun r2 M1 h => ?_)
    intro y3 y4 y5
    show mm_Runs L xs (d) 157 (38, [y3, y4, some (.int r2), y5], [], M1) o
    refine mm_Runs.seq (l := [(38, .iload_n 2, 1)]) (S2 := (39, [y3, y4, some (.int r2), y5], [.int r2], M1)) (by decide +kernel) (hO := mm_own_157) rfl ?_
    obtain ⟨hb, h⟩ := mm_gd h
    cases h
    exact mm_R_retb rfl rfl hb hA
  exact hp
-- 156: PlainPacks$Sorted.writeOccurring()V (depth 2)
theorem mm_own_156 : mm_own 156 = 10 := rfl
def mp_156_2 (L : Nat) (xs : Nat → Int32) (d : Nat) (v1 : Int32) (M : mm_M) (o : mm_E) : Prop := ∀ z2 : Option Value, mm_Runs L xs d 156 (2, [some (.ref 42), some (.int v1), z2], [], M) o
def mp_156_34 (L : Nat) (xs : Nat → Int32) (d : Nat) (M : mm_M) (o : mm_E) : Prop := ∀ z1 z2 : Option Value, mm_Runs L xs d 156 (34, [some (.ref 42), z1, z2], [], M) o
def mp_156_25 (L : Nat) (xs : Nat → Int32) (d : Nat) (v1 : Int32) (s1 : Int32) (M : mm_M) (o : mm_E) : Prop := ∀ z2 : Option Value, mm_Runs L xs d 156 (25, [some (.ref 42), some (.int v1), z2], [.int s1, .ref 5], M) o
set_option maxRecDepth 8000 in
set_option maxHeartbeats 4000000 in
theorem ms_156_j25 {L : Nat} {xs : Nat → Int32} {d : Nat} (hd : 2 ≤ d) {v1 : Int32} {s1 : Int32} {M : mm_M} {q : (((Int32) ⊕ (Unit)) ⊕ Nat) × mm_M} {o : mm_E} (h : mf_156_j25 v1 s1 M = some q) (hA : mm_A (mm_K2 (fun s M o => mp_156_2 L xs (d) s M o) (fun r M o => mp_156_34 L xs (d) M o)) q o) : mp_156_25 L xs d v1 s1 M o := by
  unfold mf_156_j25 at h
  obtain ⟨d, rfl⟩ := mm_d1 (n := 1) hd
  intro z2
  show mm_Runs L xs (d + 1) 156 (25, [some (.ref 42), some (.int v1), z2], [.int s1, .ref 5], M) o
  refine mm_R_call (v := mm_wv) h hA (k2 := 61) (as := [.ref 5, .int s1]) (r := []) rfl (fun _ => rfl) (fun q hq o ho => ms_61 (by omega) hq ho) (fun _ M1 h => ?_)
  show mm_Runs L xs (d + 1) 156 (28, [some (.ref 42), some (.int v1), z2], [], M1) o
  refine mm_Runs.seq (l := [(28, .iinc 1 1, 3), (31, .goto (-29), 3)]) (S2 := (2, [some (.ref 42), some (.int (v1 + (1 : Int32))), z2], [], M1)) (by decide +kernel) (hO := mm_own_156) rfl ?_
  cases h
  exact (show mp_156_2 L xs (d + 1) (v1 + (1 : Int32)) M1 o from hA) z2
set_option maxRecDepth 8000 in
set_option maxHeartbeats 4000000 in
theorem ms_156_b2 {L : Nat} {xs : Nat → Int32} {d : Nat} (hd : 2 ≤ d) {v1 : Int32} {M : mm_M} {q : (((Int32) ⊕ (Unit)) ⊕ Nat) × mm_M} {o : mm_E} (h : mf_156_b2 v1 M = some q) (hA : mm_A (mm_K2 (fun s M o => mp_156_2 L xs (d) s M o) (fun r M o => mp_156_34 L xs (d) M o)) q o) : mp_156_2 L xs d v1 M o := by
  unfold mf_156_b2 at h
  obtain ⟨d, rfl⟩ := mm_d1 (n := 1) hd
  intro z2
  show mm_Runs L xs (d + 1) 156 (2, [some (.ref 42), some (.int v1), z2], [], M) o
  refine mm_Runs.seq (l := [(2, .iload_n 1, 1), (3, .bipush 16, 2)]) (S2 := (5, [some (.ref 42), some (.int v1), z2], [.int (16 : Int32), .int v1], M)) (by decide +kernel) (hO := mm_own_156) rfl ?_
  refine mm_R_ige (t := 34) rfl rfl rfl (fun hc => ?_) (fun hc => ?_)
  · replace h := mm_ip hc h
    refine mm_Runs.seq (l := [(8, .aload_n 0, 1), (9, .getfield 44, 3), (12, .aload_n 0, 1), (13, .iload_n 1, 1)]) (S2 := (14, [some (.ref 42), some (.int v1), z2], [.int v1, .ref 42, .ref 5], M)) (by decide +kernel) (hO := mm_own_156) rfl ?_
    refine mm_R_call (v := mm_wi) h hA (k2 := 157) (as := [.ref 42, .int v1]) (r := [.ref 5]) rfl (fun _ => rfl) (fun q hq o ho => ms_157 (by omega) hq ho) (fun r1 M2 h => ?_)
    show mm_Runs L xs (d + 1) 156 (17, [some (.ref 42), some (.int v1), z2], [.int r1, .ref 5], M2) o
    refine mm_R_zeq (t := 24) rfl rfl rfl (fun hc => ?_) (fun hc => ?_)
    · replace h := mm_ip hc h
      refine mm_Runs.seq (l := [(24, .iconst 0, 1)]) (S2 := (25, [some (.ref 42), some (.int v1), z2], [.int (0 : Int32), .ref 5], M2)) (by decide +kernel) (hO := mm_own_156) rfl ?_
      exact (ms_156_j25 hd h hA : mp_156_25 L xs (d + 1) v1 (0 : Int32) M2 o) z2
    · replace h := mm_iq hc h
      refine mm_Runs.seq (l := [(20, .iconst 1, 1), (21, .goto 4, 3)]) (S2 := (25, [some (.ref 42), some (.int v1), z2], [.int (1 : Int32), .ref 5], M2)) (by decide +kernel) (hO := mm_own_156) rfl ?_
      exact (ms_156_j25 hd h hA : mp_156_25 L xs (d + 1) v1 (1 : Int32) M2 o) z2
  · replace h := mm_iq hc h
    cases h
    exact (show mp_156_34 L xs (d + 1) M o from hA) (some (.int v1)) z2
theorem ms_156_L2 {L : Nat} {xs : Nat → Int32} {d : Nat} (hd : 2 ≤ d) {v1 : Int32} {β : Type} {K : β → mm_M → mm_E → Prop} {F : (Unit) → mm_M → mm_O β} {M : mm_M} {q : (β ⊕ Nat) × mm_M} {o : mm_E} (h : mm_B (mf_156_L2 v1 M) F = some q) (hA : mm_A K q o) (hx : ∀ (r : (Unit)) (M2 : mm_M), F r M2 = some q → (fun r M o => mp_156_34 L xs (d) M o) r M2 o) : mp_156_2 L xs d v1 M o := by
  unfold mf_156_L2 at h
  exact mm_R_loop (step := (fun s M => mf_156_b2 s M)) (s := v1) (M := M) (P := (fun s M o => mp_156_2 L xs (d) s M o)) (X := (fun r M o => mp_156_34 L xs (d) M o)) h hA (fun s M q hq hA => ms_156_b2 (v1 := s) (M := M) (q := q) hd hq hA) hx
def mp_156_36 (L : Nat) (xs : Nat → Int32) (d : Nat) (v1 : Int32) (M : mm_M) (o : mm_E) : Prop := ∀ z2 : Option Value, mm_Runs L xs d 156 (36, [some (.ref 42), some (.int v1), z2], [], M) o
def mp_156_96 (L : Nat) (xs : Nat → Int32) (d : Nat) (M : mm_M) (o : mm_E) : Prop := ∀ z0 z1 z2 : Option Value, mm_Runs L xs d 156 (96, [z0, z1, z2], [], M) o
def mp_156_44 (L : Nat) (xs : Nat → Int32) (d : Nat) (v1 : Int32) (v2 : Int32) (M : mm_M) (o : mm_E) : Prop := mm_Runs L xs d 156 (44, [some (.ref 42), some (.int v1), some (.int v2)], [], M) o
def mp_156_90 (L : Nat) (xs : Nat → Int32) (d : Nat) (v1 : Int32) (M : mm_M) (o : mm_E) : Prop := ∀ z2 : Option Value, mm_Runs L xs d 156 (90, [some (.ref 42), some (.int v1), z2], [], M) o
def mp_156_81 (L : Nat) (xs : Nat → Int32) (d : Nat) (v1 : Int32) (v2 : Int32) (s1 : Int32) (M : mm_M) (o : mm_E) : Prop := mm_Runs L xs d 156 (81, [some (.ref 42), some (.int v1), some (.int v2)], [.int s1, .ref 5], M) o
set_option maxRecDepth 8000 in
set_option maxHeartbeats 4000000 in
theorem ms_156_j81 {L : Nat} {xs : Nat → Int32} {d : Nat} (hd : 2 ≤ d) {v1 : Int32} {v2 : Int32} {s1 : Int32} {M : mm_M} {q : (((Int32) ⊕ (Unit)) ⊕ Nat) × mm_M} {o : mm_E} (h : mf_156_j81 v1 v2 s1 M = some q) (hA : mm_A (mm_K2 (fun s M o => mp_156_44 L xs (d) v1 s M o) (fun r M o => mp_156_90 L xs (d) v1 M o)) q o) : mp_156_81 L xs d v1 v2 s1 M o := by
  unfold mf_156_j81 at h
  obtain ⟨d, rfl⟩ := mm_d1 (n := 1) hd
  show mm_Runs L xs (d + 1) 156 (81, [some (.ref 42), some (.int v1), some (.int v2)], [.int s1, .ref 5], M) o
  refine mm_R_call (v := mm_wv) h hA (k2 := 61) (as := [.ref 5, .int s1]) (r := []) rfl (fun _ => rfl) (fun q hq o ho => ms_61 (by omega) hq ho) (fun _ M1 h => ?_)
  show mm_Runs L xs (d + 1) 156 (84, [some (.ref 42), some (.int v1), some (.int v2)], [], M1) o
  refine mm_Runs.seq (l := [(84, .iinc 2 1, 3), (87, .goto (-43), 3)]) (S2 := (44, [some (.ref 42), some (.int v1), some (.int (v2 + (1 : Int32)))], [], M1)) (by decide +kernel) (hO := mm_own_156) rfl ?_
  cases h
  exact (show mp_156_44 L xs (d + 1) v1 (v2 + (1 : Int32)) M1 o from hA)
set_option maxRecDepth 8000 in
set_option maxHeartbeats 4000000 in
theorem ms_156_b44 {L : Nat} {xs : Nat → Int32} {d : Nat} (hd : 2 ≤ d) {v1 : Int32} {v2 : Int32} {M : mm_M} {q : (((Int32) ⊕ (Unit)) ⊕ Nat) × mm_M} {o : mm_E} (h : mf_156_b44 v1 v2 M = some q) (hA : mm_A (mm_K2 (fun s M o => mp_156_44 L xs (d) v1 s M o) (fun r M o => mp_156_90 L xs (d) v1 M o)) q o) : mp_156_44 L xs d v1 v2 M o := by
  unfold mf_156_b44 at h
  obtain ⟨d, rfl⟩ := mm_d1 (n := 1) hd
  show mm_Runs L xs (d + 1) 156 (44, [some (.ref 42), some (.int v1), some (.int v2)], [], M) o
  refine mm_Runs.seq (l := [(44, .iload_n 2, 1), (45, .bipush 16, 2)]) (S2 := (47, [some (.ref 42), some (.int v1), some (.int v2)], [.int (16 : Int32), .int v2], M)) (by decide +kernel) (hO := mm_own_156) rfl ?_
  refine mm_R_ige (t := 90) rfl rfl rfl (fun hc => ?_) (fun hc => ?_)
  · replace h := mm_ip hc h
    refine mm_Runs.seq (l := [(50, .aload_n 0, 1), (51, .iload_n 1, 1)]) (S2 := (52, [some (.ref 42), some (.int v1), some (.int v2)], [.int v1, .ref 42], M)) (by decide +kernel) (hO := mm_own_156) rfl ?_
    refine mm_R_call (v := mm_wi) h hA (k2 := 157) (as := [.ref 42, .int v1]) (r := []) rfl (fun _ => rfl) (fun q hq o ho => ms_157 (by omega) hq ho) (fun r1 M2 h => ?_)
    show mm_Runs L xs (d + 1) 156 (55, [some (.ref 42), some (.int v1), some (.int v2)], [.int r1], M2) o
    refine mm_R_zeq (t := 90) rfl rfl rfl (fun hc => ?_) (fun hc => ?_)
    · replace h := mm_ip hc h
      cases h
      exact (show mp_156_90 L xs (d + 1) v1 M2 o from hA) (some (.int v2))
    · replace h := mm_iq hc h
      refine mm_Runs.seq (l := [(58, .aload_n 0, 1), (59, .getfield 44, 3), (62, .aload_n 0, 1), (63, .getfield 33, 3), (66, .bipush 16, 2), (68, .iload_n 1, 1), (69, .imul, 1), (70, .iload_n 2, 1), (71, .iadd, 1)]) (S2 := (72, [some (.ref 42), some (.int v1), some (.int v2)], [.int (((16 : Int32) * v1) + v2), .ref 49, .ref 5], M2)) (by decide +kernel) (hO := mm_own_156) rfl ?_
      obtain ⟨hb, h⟩ := mm_gd h
      refine mm_R_iald rfl rfl hb ?_
      refine mm_R_zle (t := 80) rfl rfl rfl (fun hc => ?_) (fun hc => ?_)
      · replace h := mm_ip hc h
        refine mm_Runs.seq (l := [(76, .iconst 1, 1), (77, .goto 4, 3)]) (S2 := (81, [some (.ref 42), some (.int v1), some (.int v2)], [.int (1 : Int32), .ref 5], M2)) (by decide +kernel) (hO := mm_own_156) rfl ?_
        exact (ms_156_j81 hd h hA : mp_156_81 L xs (d + 1) v1 v2 (1 : Int32) M2 o)
      · replace h := mm_iq hc h
        refine mm_Runs.seq (l := [(80, .iconst 0, 1)]) (S2 := (81, [some (.ref 42), some (.int v1), some (.int v2)], [.int (0 : Int32), .ref 5], M2)) (by decide +kernel) (hO := mm_own_156) rfl ?_
        exact (ms_156_j81 hd h hA : mp_156_81 L xs (d + 1) v1 v2 (0 : Int32) M2 o)
  · replace h := mm_iq hc h
    cases h
    exact (show mp_156_90 L xs (d + 1) v1 M o from hA) (some (.int v2))
theorem ms_156_L44 {L : Nat} {xs : Nat → Int32} {d : Nat} (hd : 2 ≤ d) {v1 : Int32} {v2 : Int32} {β : Type} {K : β → mm_M → mm_E → Prop} {F : (Unit) → mm_M → mm_O β} {M : mm_M} {q : (β ⊕ Nat) × mm_M} {o : mm_E} (h : mm_B (mf_156_L44 v1 v2 M) F = some q) (hA : mm_A K q o) (hx : ∀ (r : (Unit)) (M2 : mm_M), F r M2 = some q → (fun r M o => mp_156_90 L xs (d) v1 M o) r M2 o) : mp_156_44 L xs d v1 v2 M o := by
  unfold mf_156_L44 at h
  exact mm_R_loop (step := (fun s M => mf_156_b44 v1 s M)) (s := v2) (M := M) (P := (fun s M o => mp_156_44 L xs (d) v1 s M o)) (X := (fun r M o => mp_156_90 L xs (d) v1 M o)) h hA (fun s M q hq hA => ms_156_b44 (v1 := v1) (v2 := s) (M := M) (q := q) hd hq hA) hx
set_option maxRecDepth 8000 in
set_option maxHeartbeats 4000000 in
theorem ms_156_b36 {L : Nat} {xs : Nat → Int32} {d : Nat} (hd : 2 ≤ d) {v1 : Int32} {M : mm_M} {q : (((Int32) ⊕ (Unit)) ⊕ Nat) × mm_M} {o : mm_E} (h : mf_156_b36 v1 M = some q) (hA : mm_A (mm_K2 (fun s M o => mp_156_36 L xs (d) s M o) (fun r M o => mp_156_96 L xs (d) M o)) q o) : mp_156_36 L xs d v1 M o := by
  unfold mf_156_b36 at h
  obtain ⟨d, rfl⟩ := mm_d1 (n := 1) hd
  intro z2
  show mm_Runs L xs (d + 1) 156 (36, [some (.ref 42), some (.int v1), z2], [], M) o
  refine mm_Runs.seq (l := [(36, .iload_n 1, 1), (37, .bipush 16, 2)]) (S2 := (39, [some (.ref 42), some (.int v1), z2], [.int (16 : Int32), .int v1], M)) (by decide +kernel) (hO := mm_own_156) rfl ?_
  refine mm_R_ige (t := 96) rfl rfl rfl (fun hc => ?_) (fun hc => ?_)
  · replace h := mm_ip hc h
    refine mm_Runs.seq (l := [(42, .iconst 0, 1), (43, .istore_n 2, 1)]) (S2 := (44, [some (.ref 42), some (.int v1), some (.int (0 : Int32))], [], M)) (by decide +kernel) (hO := mm_own_156) rfl ?_
    have hp : mp_156_44 L xs (d + 1) v1 (0 : Int32) M o := by
      refine ms_156_L44 hd h hA (fun r2 M1 h => ?_)
      intro y3
      show mm_Runs L xs (d + 1) 156 (90, [some (.ref 42), some (.int v1), y3], [], M1) o
      refine mm_Runs.seq (l := [(90, .iinc 1 1, 3), (93, .goto (-57), 3)]) (S2 := (36, [some (.ref 42), some (.int (v1 + (1 : Int32))), y3], [], M1)) (by decide +kernel) (hO := mm_own_156) rfl ?_
      cases h
      exact (show mp_156_36 L xs (d + 1) (v1 + (1 : Int32)) M1 o from hA) y3
    exact hp
  · replace h := mm_iq hc h
    cases h
    exact (show mp_156_96 L xs (d + 1) M o from hA) (some (.ref 42)) (some (.int v1)) z2
theorem ms_156_L36 {L : Nat} {xs : Nat → Int32} {d : Nat} (hd : 2 ≤ d) {v1 : Int32} {β : Type} {K : β → mm_M → mm_E → Prop} {F : (Unit) → mm_M → mm_O β} {M : mm_M} {q : (β ⊕ Nat) × mm_M} {o : mm_E} (h : mm_B (mf_156_L36 v1 M) F = some q) (hA : mm_A K q o) (hx : ∀ (r : (Unit)) (M2 : mm_M), F r M2 = some q → (fun r M o => mp_156_96 L xs (d) M o) r M2 o) : mp_156_36 L xs d v1 M o := by
  unfold mf_156_L36 at h
  exact mm_R_loop (step := (fun s M => mf_156_b36 s M)) (s := v1) (M := M) (P := (fun s M o => mp_156_36 L xs (d) s M o)) (X := (fun r M o => mp_156_96 L xs (d) M o)) h hA (fun s M q hq hA => ms_156_b36 (v1 := s) (M := M) (q := q) hd hq hA) hx
set_option maxRecDepth 8000 in
set_option maxHeartbeats 4000000 in
theorem ms_156 {L : Nat} {xs : Nat → Int32} {d : Nat} (hd : 2 ≤ d) {M : mm_M} {q : (Unit ⊕ Nat) × mm_M} {o : mm_E} (h : mf_156 M = some q) (hA : mm_A (mm_Kr mm_wv) q o) : mm_Runs L xs d 156 (0, mm_ent (mm_ml 156) [.ref 42], [], M) o := by
  unfold mf_156 at h
  obtain ⟨d, rfl⟩ := mm_d1 (n := 1) hd
  show mm_Runs L xs (d + 1) 156 (0, [some (.ref 42), none, none], [], M) o
  refine mm_Runs.seq (l := [(0, .iconst 0, 1), (1, .istore_n 1, 1)]) (S2 := (2, [some (.ref 42), some (.int (0 : Int32)), none], [], M)) (by decide +kernel) (hO := mm_own_156) rfl ?_
  have hp : mp_156_2 L xs (d + 1) (0 : Int32) M o := by
    refine ms_156_L2 hd h hA (fun r2 M1 h => ?_)
    intro y3 y4
    show mm_Runs L xs (d + 1) 156 (34, [some (.ref 42), y3, y4], [], M1) o
    refine mm_Runs.seq (l := [(34, .iconst 0, 1), (35, .istore_n 1, 1)]) (S2 := (36, [some (.ref 42), some (.int (0 : Int32)), y4], [], M1)) (by decide +kernel) (hO := mm_own_156) rfl ?_
    have hp : mp_156_36 L xs (d + 1) (0 : Int32) M1 o := by
      refine ms_156_L36 hd h hA (fun r6 M5 h => ?_)
      intro y7 y8 y9
      show mm_Runs L xs (d + 1) 156 (96, [y7, y8, y9], [], M5) o
      cases h
      exact mm_R_retv rfl rfl hA
    exact hp y4
  exact hp none
-- 155: PlainPacks$Sorted.writeBlock(I)V (depth 3)
theorem mm_own_155 : mm_own 155 = 10 := rfl
def mp_155_86 (L : Nat) (xs : Nat → Int32) (d : Nat) (v2 : Int32) (v3 : Int32) (M : mm_M) (o : mm_E) : Prop := ∀ z1 z4 z5 : Option Value, mm_Runs L xs d 155 (86, [some (.ref 42), z1, some (.int v2), some (.int v3), z4, z5], [], M) o
def mp_155_105 (L : Nat) (xs : Nat → Int32) (d : Nat) (M : mm_M) (o : mm_E) : Prop := ∀ z1 z2 z3 z4 z5 : Option Value, mm_Runs L xs d 155 (105, [some (.ref 42), z1, z2, z3, z4, z5], [], M) o
set_option maxRecDepth 8000 in
set_option maxHeartbeats 4000000 in
theorem ms_155_b86 {L : Nat} {xs : Nat → Int32} {d : Nat} (hd : 3 ≤ d) {v2 : Int32} {v3 : Int32} {M : mm_M} {q : (((Int32) ⊕ (Unit)) ⊕ Nat) × mm_M} {o : mm_E} (h : mf_155_b86 v2 v3 M = some q) (hA : mm_A (mm_K2 (fun s M o => mp_155_86 L xs (d) v2 s M o) (fun r M o => mp_155_105 L xs (d) M o)) q o) : mp_155_86 L xs d v2 v3 M o := by
  unfold mf_155_b86 at h
  obtain ⟨d, rfl⟩ := mm_d1 (n := 2) hd
  intro z1 z4 z5
  show mm_Runs L xs (d + 1) 155 (86, [some (.ref 42), z1, some (.int v2), some (.int v3), z4, z5], [], M) o
  refine mm_Runs.seq (l := [(86, .iload_n 3, 1), (87, .iload_n 2, 1)]) (S2 := (88, [some (.ref 42), z1, some (.int v2), some (.int v3), z4, z5], [.int v2, .int v3], M)) (by decide +kernel) (hO := mm_own_155) rfl ?_
  refine mm_R_ige (t := 105) rfl rfl rfl (fun hc => ?_) (fun hc => ?_)
  · replace h := mm_ip hc h
    refine mm_Runs.seq (l := [(91, .aload_n 0, 1), (92, .getfield 44, 3), (95, .iconst 0, 1)]) (S2 := (96, [some (.ref 42), z1, some (.int v2), some (.int v3), z4, z5], [.int (0 : Int32), .ref 5], M)) (by decide +kernel) (hO := mm_own_155) rfl ?_
    refine mm_R_call (v := mm_wv) h hA (k2 := 61) (as := [.ref 5, .int (0 : Int32)]) (r := []) rfl (fun _ => rfl) (fun q hq o ho => ms_61 (by omega) hq ho) (fun _ M1 h => ?_)
    show mm_Runs L xs (d + 1) 155 (99, [some (.ref 42), z1, some (.int v2), some (.int v3), z4, z5], [], M1) o
    refine mm_Runs.seq (l := [(99, .iinc 3 1, 3), (102, .goto (-16), 3)]) (S2 := (86, [some (.ref 42), z1, some (.int v2), some (.int (v3 + (1 : Int32))), z4, z5], [], M1)) (by decide +kernel) (hO := mm_own_155) rfl ?_
    cases h
    exact (show mp_155_86 L xs (d + 1) v2 (v3 + (1 : Int32)) M1 o from hA) z1 z4 z5
  · replace h := mm_iq hc h
    cases h
    exact (show mp_155_105 L xs (d + 1) M o from hA) z1 (some (.int v2)) (some (.int v3)) z4 z5
theorem ms_155_L86 {L : Nat} {xs : Nat → Int32} {d : Nat} (hd : 3 ≤ d) {v2 : Int32} {v3 : Int32} {β : Type} {K : β → mm_M → mm_E → Prop} {F : (Unit) → mm_M → mm_O β} {M : mm_M} {q : (β ⊕ Nat) × mm_M} {o : mm_E} (h : mm_B (mf_155_L86 v2 v3 M) F = some q) (hA : mm_A K q o) (hx : ∀ (r : (Unit)) (M2 : mm_M), F r M2 = some q → (fun r M o => mp_155_105 L xs (d) M o) r M2 o) : mp_155_86 L xs d v2 v3 M o := by
  unfold mf_155_L86 at h
  exact mm_R_loop (step := (fun s M => mf_155_b86 v2 s M)) (s := v3) (M := M) (P := (fun s M o => mp_155_86 L xs (d) v2 s M o)) (X := (fun r M o => mp_155_105 L xs (d) M o)) h hA (fun s M q hq hA => ms_155_b86 (v2 := v2) (v3 := s) (M := M) (q := q) hd hq hA) hx
def mp_155_107 (L : Nat) (xs : Nat → Int32) (d : Nat) (v3 : Int32) (M : mm_M) (o : mm_E) : Prop := ∀ z1 z2 z4 z5 : Option Value, mm_Runs L xs d 155 (107, [some (.ref 42), z1, z2, some (.int v3), z4, z5], [], M) o
def mp_155_131 (L : Nat) (xs : Nat → Int32) (d : Nat) (v3 : Int32) (M : mm_M) (o : mm_E) : Prop := ∀ z1 z2 z4 z5 : Option Value, mm_Runs L xs d 155 (131, [some (.ref 42), z1, z2, some (.int v3), z4, z5], [], M) o
set_option maxRecDepth 8000 in
set_option maxHeartbeats 4000000 in
theorem ms_155_b107 {L : Nat} {xs : Nat → Int32} {d : Nat} (hd : 3 ≤ d) {v3 : Int32} {M : mm_M} {q : (((Int32) ⊕ (Int32)) ⊕ Nat) × mm_M} {o : mm_E} (h : mf_155_b107 v3 M = some q) (hA : mm_A (mm_K2 (fun s M o => mp_155_107 L xs (d) s M o) (fun r M o => mp_155_131 L xs (d) r M o)) q o) : mp_155_107 L xs d v3 M o := by
  unfold mf_155_b107 at h
  obtain ⟨d, rfl⟩ := mm_d1 (n := 2) hd
  intro z1 z2 z4 z5
  show mm_Runs L xs (d + 1) 155 (107, [some (.ref 42), z1, z2, some (.int v3), z4, z5], [], M) o
  refine mm_Runs.seq (l := [(107, .iload_n 3, 1), (108, .bipush 20, 2)]) (S2 := (110, [some (.ref 42), z1, z2, some (.int v3), z4, z5], [.int (20 : Int32), .int v3], M)) (by decide +kernel) (hO := mm_own_155) rfl ?_
  refine mm_R_ige (t := 131) rfl rfl rfl (fun hc => ?_) (fun hc => ?_)
  · replace h := mm_ip hc h
    refine mm_Runs.seq (l := [(113, .iconst 1, 1), (114, .iload_n 3, 1), (115, .ishl, 1), (116, .aload_n 0, 1), (117, .getfield 125, 3), (120, .iconst 2, 1), (121, .iadd, 1)]) (S2 := (122, [some (.ref 42), z1, z2, some (.int v3), z4, z5], [.int ((M.1 42 9) + (2 : Int32)), .int (mm_shl (1 : Int32) v3)], M)) (by decide +kernel) (hO := mm_own_155) rfl ?_
    refine mm_R_ige (t := 131) rfl rfl rfl (fun hc => ?_) (fun hc => ?_)
    · replace h := mm_ip hc h
      refine mm_Runs.seq (l := [(125, .iinc 3 1, 3), (128, .goto (-21), 3)]) (S2 := (107, [some (.ref 42), z1, (mm_no2 z2), some (.int (v3 + (1 : Int32))), z4, z5], [], M)) (by decide +kernel) (hO := mm_own_155) rfl ?_
      cases h
      exact (show mp_155_107 L xs (d + 1) (v3 + (1 : Int32)) M o from hA) z1 ((mm_no2 z2)) z4 z5
    · replace h := mm_iq hc h
      cases h
      exact (show mp_155_131 L xs (d + 1) v3 M o from hA) z1 z2 z4 z5
  · replace h := mm_iq hc h
    cases h
    exact (show mp_155_131 L xs (d + 1) v3 M o from hA) z1 z2 z4 z5
theorem ms_155_L107 {L : Nat} {xs : Nat → Int32} {d : Nat} (hd : 3 ≤ d) {v3 : Int32} {β : Type} {K : β → mm_M → mm_E → Prop} {F : (Int32) → mm_M → mm_O β} {M : mm_M} {q : (β ⊕ Nat) × mm_M} {o : mm_E} (h : mm_B (mf_155_L107 v3 M) F = some q) (hA : mm_A K q o) (hx : ∀ (r : (Int32)) (M2 : mm_M), F r M2 = some q → (fun r M o => mp_155_131 L xs (d) r M o) r M2 o) : mp_155_107 L xs d v3 M o := by
  unfold mf_155_L107 at h
  exact mm_R_loop (step := (fun s M => mf_155_b107 s M)) (s := v3) (M := M) (P := (fun s M o => mp_155_107 L xs (d) s M o)) (X := (fun r M o => mp_155_131 L xs (d) r M o)) h hA (fun s M q hq hA => ms_155_b107 (v3 := s) (M := M) (q := q) hd hq hA) hx
def mp_155_134 (L : Nat) (xs : Nat → Int32) (d : Nat) (v3 : Int32) (v4 : Int32) (M : mm_M) (o : mm_E) : Prop := ∀ z1 z2 z5 : Option Value, mm_Runs L xs d 155 (134, [some (.ref 42), z1, z2, some (.int v3), some (.int v4), z5], [], M) o
def mp_155_184 (L : Nat) (xs : Nat → Int32) (d : Nat) (v3 : Int32) (M : mm_M) (o : mm_E) : Prop := ∀ z1 z2 z4 z5 : Option Value, mm_Runs L xs d 155 (184, [some (.ref 42), z1, z2, some (.int v3), z4, z5], [], M) o
def mp_155_153 (L : Nat) (xs : Nat → Int32) (d : Nat) (v3 : Int32) (v4 : Int32) (v5 : Int32) (M : mm_M) (o : mm_E) : Prop := ∀ z1 z2 : Option Value, mm_Runs L xs d 155 (153, [some (.ref 42), z1, z2, some (.int v3), some (.int v4), some (.int v5)], [], M) o
def mp_155_178 (L : Nat) (xs : Nat → Int32) (d : Nat) (v3 : Int32) (v4 : Int32) (M : mm_M) (o : mm_E) : Prop := ∀ z1 z2 z5 : Option Value, mm_Runs L xs d 155 (178, [some (.ref 42), z1, z2, some (.int v3), some (.int v4), z5], [], M) o
set_option maxRecDepth 8000 in
set_option maxHeartbeats 4000000 in
theorem ms_155_b153 {L : Nat} {xs : Nat → Int32} {d : Nat} (hd : 3 ≤ d) {v3 : Int32} {v4 : Int32} {v5 : Int32} {M : mm_M} {q : (((Int32) ⊕ (Unit)) ⊕ Nat) × mm_M} {o : mm_E} (h : mf_155_b153 v3 v4 v5 M = some q) (hA : mm_A (mm_K2 (fun s M o => mp_155_153 L xs (d) v3 v4 s M o) (fun r M o => mp_155_178 L xs (d) v3 v4 M o)) q o) : mp_155_153 L xs d v3 v4 v5 M o := by
  unfold mf_155_b153 at h
  obtain ⟨d, rfl⟩ := mm_d1 (n := 2) hd
  intro z1 z2
  show mm_Runs L xs (d + 1) 155 (153, [some (.ref 42), z1, z2, some (.int v3), some (.int v4), some (.int v5)], [], M) o
  refine mm_Runs.seq (l := [(153, .iload 5, 2), (155, .aload_n 0, 1), (156, .getfield 125, 3), (159, .iconst 2, 1), (160, .iadd, 1)]) (S2 := (161, [some (.ref 42), z1, z2, some (.int v3), some (.int v4), some (.int v5)], [.int ((M.1 42 9) + (2 : Int32)), .int v5], M)) (by decide +kernel) (hO := mm_own_155) rfl ?_
  refine mm_R_ige (t := 178) rfl rfl rfl (fun hc => ?_) (fun hc => ?_)
  · replace h := mm_ip hc h
    refine mm_Runs.seq (l := [(164, .aload_n 0, 1), (165, .getfield 44, 3), (168, .iconst 0, 1)]) (S2 := (169, [some (.ref 42), z1, z2, some (.int v3), some (.int v4), some (.int v5)], [.int (0 : Int32), .ref 5], M)) (by decide +kernel) (hO := mm_own_155) rfl ?_
    refine mm_R_call (v := mm_wv) h hA (k2 := 61) (as := [.ref 5, .int (0 : Int32)]) (r := []) rfl (fun _ => rfl) (fun q hq o ho => ms_61 (by omega) hq ho) (fun _ M1 h => ?_)
    show mm_Runs L xs (d + 1) 155 (172, [some (.ref 42), z1, z2, some (.int v3), some (.int v4), some (.int v5)], [], M1) o
    refine mm_Runs.seq (l := [(172, .iinc 5 1, 3), (175, .goto (-22), 3)]) (S2 := (153, [some (.ref 42), z1, z2, some (.int v3), some (.int v4), some (.int (v5 + (1 : Int32)))], [], M1)) (by decide +kernel) (hO := mm_own_155) rfl ?_
    cases h
    exact (show mp_155_153 L xs (d + 1) v3 v4 (v5 + (1 : Int32)) M1 o from hA) z1 z2
  · replace h := mm_iq hc h
    cases h
    exact (show mp_155_178 L xs (d + 1) v3 v4 M o from hA) z1 z2 (some (.int v5))
theorem ms_155_L153 {L : Nat} {xs : Nat → Int32} {d : Nat} (hd : 3 ≤ d) {v3 : Int32} {v4 : Int32} {v5 : Int32} {β : Type} {K : β → mm_M → mm_E → Prop} {F : (Unit) → mm_M → mm_O β} {M : mm_M} {q : (β ⊕ Nat) × mm_M} {o : mm_E} (h : mm_B (mf_155_L153 v3 v4 v5 M) F = some q) (hA : mm_A K q o) (hx : ∀ (r : (Unit)) (M2 : mm_M), F r M2 = some q → (fun r M o => mp_155_178 L xs (d) v3 v4 M o) r M2 o) : mp_155_153 L xs d v3 v4 v5 M o := by
  unfold mf_155_L153 at h
  exact mm_R_loop (step := (fun s M => mf_155_b153 v3 v4 s M)) (s := v5) (M := M) (P := (fun s M o => mp_155_153 L xs (d) v3 v4 s M o)) (X := (fun r M o => mp_155_178 L xs (d) v3 v4 M o)) h hA (fun s M q hq hA => ms_155_b153 (v3 := v3) (v4 := v4) (v5 := s) (M := M) (q := q) hd hq hA) hx
set_option maxRecDepth 8000 in
set_option maxHeartbeats 4000000 in
theorem ms_155_b134 {L : Nat} {xs : Nat → Int32} {d : Nat} (hd : 3 ≤ d) {v3 : Int32} {v4 : Int32} {M : mm_M} {q : (((Int32) ⊕ (Unit)) ⊕ Nat) × mm_M} {o : mm_E} (h : mf_155_b134 v3 v4 M = some q) (hA : mm_A (mm_K2 (fun s M o => mp_155_134 L xs (d) v3 s M o) (fun r M o => mp_155_184 L xs (d) v3 M o)) q o) : mp_155_134 L xs d v3 v4 M o := by
  unfold mf_155_b134 at h
  obtain ⟨d, rfl⟩ := mm_d1 (n := 2) hd
  intro z1 z2 z5
  show mm_Runs L xs (d + 1) 155 (134, [some (.ref 42), z1, z2, some (.int v3), some (.int v4), z5], [], M) o
  refine mm_Runs.seq (l := [(134, .iload 4, 2), (136, .iconst 2, 1)]) (S2 := (137, [some (.ref 42), z1, z2, some (.int v3), some (.int v4), z5], [.int (2 : Int32), .int v4], M)) (by decide +kernel) (hO := mm_own_155) rfl ?_
  refine mm_R_ige (t := 184) rfl rfl rfl (fun hc => ?_) (fun hc => ?_)
  · replace h := mm_ip hc h
    refine mm_Runs.seq (l := [(140, .aload_n 0, 1), (141, .getfield 44, 3), (144, .iload_n 3, 1), (145, .i2l, 1), (146, .iconst 5, 1)]) (S2 := (147, [some (.ref 42), z1, z2, some (.int v3), some (.int v4), z5], [.int (5 : Int32), .long v3.toInt64, .ref 5], M)) (by decide +kernel) (hO := mm_own_155) rfl ?_
    refine mm_R_call (v := mm_wv) h hA (k2 := 62) (as := [.ref 5, .long v3.toInt64, .int (5 : Int32)]) (r := []) rfl (fun _ => rfl) (fun q hq o ho => ms_62 (by omega) hq ho) (fun _ M1 h => ?_)
    show mm_Runs L xs (d + 1) 155 (150, [some (.ref 42), z1, z2, some (.int v3), some (.int v4), z5], [], M1) o
    refine mm_Runs.seq (l := [(150, .iconst 0, 1), (151, .istore 5, 2)]) (S2 := (153, [some (.ref 42), z1, z2, some (.int v3), some (.int v4), some (.int (0 : Int32))], [], M1)) (by decide +kernel) (hO := mm_own_155) rfl ?_
    have hp : mp_155_153 L xs (d + 1) v3 v4 (0 : Int32) M1 o := by
      refine ms_155_L153 hd h hA (fun r3 M2 h => ?_)
      intro y4 y5 y6
      show mm_Runs L xs (d + 1) 155 (178, [some (.ref 42), y4, y5, some (.int v3), some (.int v4), y6], [], M2) o
      refine mm_Runs.seq (l := [(178, .iinc 4 1, 3), (181, .goto (-47), 3)]) (S2 := (134, [some (.ref 42), y4, y5, some (.int v3), some (.int (v4 + (1 : Int32))), y6], [], M2)) (by decide +kernel) (hO := mm_own_155) rfl ?_
      cases h
      exact (show mp_155_134 L xs (d + 1) v3 (v4 + (1 : Int32)) M2 o from hA) y4 y5 y6
    exact hp z1 z2
  · replace h := mm_iq hc h
    cases h
    exact (show mp_155_184 L xs (d + 1) v3 M o from hA) z1 z2 (some (.int v4)) z5
theorem ms_155_L134 {L : Nat} {xs : Nat → Int32} {d : Nat} (hd : 3 ≤ d) {v3 : Int32} {v4 : Int32} {β : Type} {K : β → mm_M → mm_E → Prop} {F : (Unit) → mm_M → mm_O β} {M : mm_M} {q : (β ⊕ Nat) × mm_M} {o : mm_E} (h : mm_B (mf_155_L134 v3 v4 M) F = some q) (hA : mm_A K q o) (hx : ∀ (r : (Unit)) (M2 : mm_M), F r M2 = some q → (fun r M o => mp_155_184 L xs (d) v3 M o) r M2 o) : mp_155_134 L xs d v3 v4 M o := by
  unfold mf_155_L134 at h
  exact mm_R_loop (step := (fun s M => mf_155_b134 v3 s M)) (s := v4) (M := M) (P := (fun s M o => mp_155_134 L xs (d) v3 s M o)) (X := (fun r M o => mp_155_184 L xs (d) v3 M o)) h hA (fun s M q hq hA => ms_155_b134 (v3 := v3) (v4 := s) (M := M) (q := q) hd hq hA) hx
def mp_155_187 (L : Nat) (xs : Nat → Int32) (d : Nat) (v3 : Int32) (v4 : Int32) (M : mm_M) (o : mm_E) : Prop := ∀ z1 z2 z5 : Option Value, mm_Runs L xs d 155 (187, [some (.ref 42), z1, z2, some (.int v3), some (.int v4), z5], [], M) o
def mp_155_218 (L : Nat) (xs : Nat → Int32) (d : Nat) (M : mm_M) (o : mm_E) : Prop := ∀ z0 z1 z2 z3 z4 z5 : Option Value, mm_Runs L xs d 155 (218, [z0, z1, z2, z3, z4, z5], [], M) o
set_option maxRecDepth 8000 in
set_option maxHeartbeats 4000000 in
theorem ms_155_b187 {L : Nat} {xs : Nat → Int32} {d : Nat} (hd : 3 ≤ d) {v3 : Int32} {v4 : Int32} {M : mm_M} {q : (((Int32) ⊕ (Unit)) ⊕ Nat) × mm_M} {o : mm_E} (h : mf_155_b187 v3 v4 M = some q) (hA : mm_A (mm_K2 (fun s M o => mp_155_187 L xs (d) v3 s M o) (fun r M o => mp_155_218 L xs (d) M o)) q o) : mp_155_187 L xs d v3 v4 M o := by
  unfold mf_155_b187 at h
  obtain ⟨d, rfl⟩ := mm_d1 (n := 2) hd
  intro z1 z2 z5
  show mm_Runs L xs (d + 1) 155 (187, [some (.ref 42), z1, z2, some (.int v3), some (.int v4), z5], [], M) o
  refine mm_Runs.seq (l := [(187, .iload 4, 2), (189, .aload_n 0, 1), (190, .getfield 196, 3)]) (S2 := (193, [some (.ref 42), z1, z2, some (.int v3), some (.int v4), z5], [.int (M.1 42 15), .int v4], M)) (by decide +kernel) (hO := mm_own_155) rfl ?_
  refine mm_R_ige (t := 218) rfl rfl rfl (fun hc => ?_) (fun hc => ?_)
  · replace h := mm_ip hc h
    refine mm_Runs.seq (l := [(196, .aload_n 0, 1), (197, .getfield 44, 3), (200, .aload_n 0, 1), (201, .getfield 30, 3), (204, .iload 4, 2)]) (S2 := (206, [some (.ref 42), z1, z2, some (.int v3), some (.int v4), z5], [.int v4, .ref 48, .ref 5], M)) (by decide +kernel) (hO := mm_own_155) rfl ?_
    obtain ⟨hb, h⟩ := mm_gd h
    refine mm_R_iald rfl rfl hb ?_
    refine mm_Runs.seq (l := [(207, .i2l, 1), (208, .iload_n 3, 1)]) (S2 := (209, [some (.ref 42), z1, z2, some (.int v3), some (.int v4), z5], [.int v3, .long (M.1 48 v4.toNatClampNeg).toInt64, .ref 5], M)) (by decide +kernel) (hO := mm_own_155) rfl ?_
    refine mm_R_call (v := mm_wv) h hA (k2 := 62) (as := [.ref 5, .long (M.1 48 v4.toNatClampNeg).toInt64, .int v3]) (r := []) rfl (fun _ => rfl) (fun q hq o ho => ms_62 (by omega) hq ho) (fun _ M1 h => ?_)
    show mm_Runs L xs (d + 1) 155 (212, [some (.ref 42), z1, z2, some (.int v3), some (.int v4), z5], [], M1) o
    refine mm_Runs.seq (l := [(212, .iinc 4 1, 3), (215, .goto (-28), 3)]) (S2 := (187, [some (.ref 42), z1, z2, some (.int v3), some (.int (v4 + (1 : Int32))), z5], [], M1)) (by decide +kernel) (hO := mm_own_155) rfl ?_
    cases h
    exact (show mp_155_187 L xs (d + 1) v3 (v4 + (1 : Int32)) M1 o from hA) z1 z2 z5
  · replace h := mm_iq hc h
    cases h
    exact (show mp_155_218 L xs (d + 1) M o from hA) (some (.ref 42)) z1 z2 (some (.int v3)) (some (.int v4)) z5
theorem ms_155_L187 {L : Nat} {xs : Nat → Int32} {d : Nat} (hd : 3 ≤ d) {v3 : Int32} {v4 : Int32} {β : Type} {K : β → mm_M → mm_E → Prop} {F : (Unit) → mm_M → mm_O β} {M : mm_M} {q : (β ⊕ Nat) × mm_M} {o : mm_E} (h : mm_B (mf_155_L187 v3 v4 M) F = some q) (hA : mm_A K q o) (hx : ∀ (r : (Unit)) (M2 : mm_M), F r M2 = some q → (fun r M o => mp_155_218 L xs (d) M o) r M2 o) : mp_155_187 L xs d v3 v4 M o := by
  unfold mf_155_L187 at h
  exact mm_R_loop (step := (fun s M => mf_155_b187 v3 s M)) (s := v4) (M := M) (P := (fun s M o => mp_155_187 L xs (d) v3 s M o)) (X := (fun r M o => mp_155_218 L xs (d) M o)) h hA (fun s M q hq hA => ms_155_b187 (v3 := v3) (v4 := s) (M := M) (q := q) hd hq hA) hx
set_option maxRecDepth 8000 in
set_option maxHeartbeats 4000000 in
theorem ms_155 {L : Nat} {xs : Nat → Int32} {d : Nat} (hd : 3 ≤ d) {v1 : Int32} {M : mm_M} {q : (Unit ⊕ Nat) × mm_M} {o : mm_E} (h : mf_155 v1 M = some q) (hA : mm_A (mm_Kr mm_wv) q o) : mm_Runs L xs d 155 (0, mm_ent (mm_ml 155) [.ref 42, .int v1], [], M) o := by
  unfold mf_155 at h
  obtain ⟨d, rfl⟩ := mm_d1 (n := 2) hd
  show mm_Runs L xs (d + 1) 155 (0, [some (.ref 42), some (.int v1), none, none, none, none], [], M) o
  refine mm_Runs.seq (l := [(0, .aload_n 0, 1), (1, .getfield 44, 3), (4, .ldc2_w 76, 3), (7, .bipush 48, 2)]) (S2 := (9, [some (.ref 42), some (.int v1), none, none, none, none], [.int (48 : Int32), .long (54156738319193 : Int64), .ref 5], M)) (by decide +kernel) (hO := mm_own_155) rfl ?_
  refine mm_R_call (v := mm_wv) h hA (k2 := 62) (as := [.ref 5, .long (54156738319193 : Int64), .int (48 : Int32)]) (r := []) rfl (fun _ => rfl) (fun q hq o ho => ms_62 (by omega) hq ho) (fun _ M1 h => ?_)
  show mm_Runs L xs (d + 1) 155 (12, [some (.ref 42), some (.int v1), none, none, none, none], [], M1) o
  refine mm_Runs.seq (l := [(12, .aload_n 0, 1), (13, .getfield 44, 3), (16, .iload_n 1, 1), (17, .i2l, 1), (18, .bipush 32, 2)]) (S2 := (20, [some (.ref 42), some (.int v1), none, none, none, none], [.int (32 : Int32), .long v1.toInt64, .ref 5], M1)) (by decide +kernel) (hO := mm_own_155) rfl ?_
  refine mm_R_call (v := mm_wv) h hA (k2 := 62) (as := [.ref 5, .long v1.toInt64, .int (32 : Int32)]) (r := []) rfl (fun _ => rfl) (fun q hq o ho => ms_62 (by omega) hq ho) (fun _ M2 h => ?_)
  show mm_Runs L xs (d + 1) 155 (23, [some (.ref 42), some (.int v1), none, none, none, none], [], M2) o
  refine mm_Runs.seq (l := [(23, .aload_n 0, 1), (24, .getfield 44, 3), (27, .iconst 0, 1)]) (S2 := (28, [some (.ref 42), some (.int v1), none, none, none, none], [.int (0 : Int32), .ref 5], M2)) (by decide +kernel) (hO := mm_own_155) rfl ?_
  refine mm_R_call (v := mm_wv) h hA (k2 := 61) (as := [.ref 5, .int (0 : Int32)]) (r := []) rfl (fun _ => rfl) (fun q hq o ho => ms_61 (by omega) hq ho) (fun _ M3 h => ?_)
  show mm_Runs L xs (d + 1) 155 (31, [some (.ref 42), some (.int v1), none, none, none, none], [], M3) o
  refine mm_Runs.seq (l := [(31, .aload_n 0, 1), (32, .getfield 44, 3), (35, .aload_n 0, 1), (36, .getfield 108, 3), (39, .i2l, 1), (40, .bipush 24, 2)]) (S2 := (42, [some (.ref 42), some (.int v1), none, none, none, none], [.int (24 : Int32), .long (M3.1 42 10).toInt64, .ref 5], M3)) (by decide +kernel) (hO := mm_own_155) rfl ?_
  refine mm_R_call (v := mm_wv) h hA (k2 := 62) (as := [.ref 5, .long (M3.1 42 10).toInt64, .int (24 : Int32)]) (r := []) rfl (fun _ => rfl) (fun q hq o ho => ms_62 (by omega) hq ho) (fun _ M4 h => ?_)
  show mm_Runs L xs (d + 1) 155 (45, [some (.ref 42), some (.int v1), none, none, none, none], [], M4) o
  refine mm_Runs.seq (l := [(45, .aload_n 0, 1)]) (S2 := (46, [some (.ref 42), some (.int v1), none, none, none, none], [.ref 42], M4)) (by decide +kernel) (hO := mm_own_155) rfl ?_
  refine mm_R_call (v := mm_wv) h hA (k2 := 156) (as := [.ref 42]) (r := []) rfl (fun _ => rfl) (fun q hq o ho => ms_156 (by omega) hq ho) (fun _ M5 h => ?_)
  show mm_Runs L xs (d + 1) 155 (49, [some (.ref 42), some (.int v1), none, none, none, none], [], M5) o
  refine mm_Runs.seq (l := [(49, .aload_n 0, 1), (50, .getfield 44, 3), (53, .ldc2_w 220, 3), (56, .iconst 3, 1)]) (S2 := (57, [some (.ref 42), some (.int v1), none, none, none, none], [.int (3 : Int32), .long (2 : Int64), .ref 5], M5)) (by decide +kernel) (hO := mm_own_155) rfl ?_
  refine mm_R_call (v := mm_wv) h hA (k2 := 62) (as := [.ref 5, .long (2 : Int64), .int (3 : Int32)]) (r := []) rfl (fun _ => rfl) (fun q hq o ho => ms_62 (by omega) hq ho) (fun _ M6 h => ?_)
  show mm_Runs L xs (d + 1) 155 (60, [some (.ref 42), some (.int v1), none, none, none, none], [], M6) o
  refine mm_Runs.seq (l := [(60, .aload_n 0, 1), (61, .getfield 196, 3), (64, .bipush 50, 2), (66, .iadd, 1), (67, .iconst 1, 1), (68, .isub, 1), (69, .bipush 50, 2), (71, .idiv, 1), (72, .istore_n 2, 1), (73, .aload_n 0, 1), (74, .getfield 44, 3), (77, .iload_n 2, 1), (78, .i2l, 1), (79, .bipush 15, 2)]) (S2 := (81, [some (.ref 42), some (.int v1), some (.int ((((M6.1 42 15) + (50 : Int32)) - (1 : Int32)) / (50 : Int32))), none, none, none], [.int (15 : Int32), .long ((((M6.1 42 15) + (50 : Int32)) - (1 : Int32)) / (50 : Int32)).toInt64, .ref 5], M6)) (by decide +kernel) (hO := mm_own_155) rfl ?_
  refine mm_R_call (v := mm_wv) h hA (k2 := 62) (as := [.ref 5, .long ((((M6.1 42 15) + (50 : Int32)) - (1 : Int32)) / (50 : Int32)).toInt64, .int (15 : Int32)]) (r := []) rfl (fun _ => rfl) (fun q hq o ho => ms_62 (by omega) hq ho) (fun _ M7 h => ?_)
  show mm_Runs L xs (d + 1) 155 (84, [some (.ref 42), some (.int v1), some (.int ((((M6.1 42 15) + (50 : Int32)) - (1 : Int32)) / (50 : Int32))), none, none, none], [], M7) o
  refine mm_Runs.seq (l := [(84, .iconst 0, 1), (85, .istore_n 3, 1)]) (S2 := (86, [some (.ref 42), some (.int v1), some (.int ((((M6.1 42 15) + (50 : Int32)) - (1 : Int32)) / (50 : Int32))), some (.int (0 : Int32)), none, none], [], M7)) (by decide +kernel) (hO := mm_own_155) rfl ?_
  have hp : mp_155_86 L xs (d + 1) ((((M6.1 42 15) + (50 : Int32)) - (1 : Int32)) / (50 : Int32)) (0 : Int32) M7 o := by
    refine ms_155_L86 hd h hA (fun r9 M8 h => ?_)
    intro y10 y11 y12 y13 y14
    show mm_Runs L xs (d + 1) 155 (105, [some (.ref 42), y10, y11, y12, y13, y14], [], M8) o
    refine mm_Runs.seq (l := [(105, .iconst 1, 1), (106, .istore_n 3, 1)]) (S2 := (107, [some (.ref 42), y10, (mm_no2 y11), some (.int (1 : Int32)), y13, y14], [], M8)) (by decide +kernel) (hO := mm_own_155) rfl ?_
    have hp : mp_155_107 L xs (d + 1) (1 : Int32) M8 o := by
      refine ms_155_L107 hd h hA (fun r16 M15 h => ?_)
      intro y17 y18 y19 y20
      show mm_Runs L xs (d + 1) 155 (131, [some (.ref 42), y17, y18, some (.int r16), y19, y20], [], M15) o
      refine mm_Runs.seq (l := [(131, .iconst 0, 1), (132, .istore 4, 2)]) (S2 := (134, [some (.ref 42), y17, y18, some (.int r16), some (.int (0 : Int32)), y20], [], M15)) (by decide +kernel) (hO := mm_own_155) rfl ?_
      have hp : mp_155_134 L xs (d + 1) r16 (0 : Int32) M15 o := by
        refine ms_155_L134 hd h hA (fun r22 M21 h => ?_)
        intro y23 y24 y25 y26
        show mm_Runs L xs (d + 1) 155 (184, [some (.ref 42), y23, y24, some (.int r16), y25, y26], [], M21) o
        refine mm_Runs.seq (l := [(184, .iconst 0, 1), (185, .istore 4, 2)]) (S2 := (187, [some (.ref 42), y23, y24, some (.int r16), some (.int (0 : Int32)), y26], [], M21)) (by decide +kernel) (hO := mm_own_155) rfl ?_
        have hp : mp_155_187 L xs (d + 1) r16 (0 : Int32) M21 o := by
          refine ms_155_L187 hd h hA (fun r28 M27 h => ?_)
          intro y29 y30 y31 y32 y33 y34
          show mm_Runs L xs (d + 1) 155 (218, [y29, y30, y31, y32, y33, y34], [], M27) o
          cases h
          exact mm_R_retv rfl rfl hA
        exact hp y23 y24 y26
      exact hp y17 y18 y20
    exact hp y10 ((mm_no2 y11)) y13 y14
  exact hp (some (.int v1)) none none
-- 147: PlainPacks$Sorted.writeSorted()V (depth 5)
theorem mm_own_147 : mm_own 147 = 10 := rfl
def mp_147_88 (L : Nat) (xs : Nat → Int32) (d : Nat) (v1 : Int32) (M : mm_M) (o : mm_E) : Prop := mm_Runs L xs d 147 (88, [some (.ref 42), some (.int v1)], [], M) o
set_option maxRecDepth 8000 in
set_option maxHeartbeats 4000000 in
theorem ms_147_j88 {L : Nat} {xs : Nat → Int32} {d : Nat} (hd : 5 ≤ d) {v1 : Int32} {M : mm_M} {q : (Unit ⊕ Nat) × mm_M} {o : mm_E} (h : mf_147_j88 v1 M = some q) (hA : mm_A (mm_Kr mm_wv) q o) : mp_147_88 L xs d v1 M o := by
  unfold mf_147_j88 at h
  obtain ⟨d, rfl⟩ := mm_d1 (n := 4) hd
  show mm_Runs L xs (d + 1) 147 (88, [some (.ref 42), some (.int v1)], [], M) o
  refine mm_Runs.seq (l := [(88, .aload_n 0, 1), (89, .getfield 44, 3), (92, .ldc2_w 74, 3), (95, .bipush 48, 2)]) (S2 := (97, [some (.ref 42), some (.int v1)], [.int (48 : Int32), .long (25779555029136 : Int64), .ref 5], M)) (by decide +kernel) (hO := mm_own_147) rfl ?_
  refine mm_R_call (v := mm_wv) h hA (k2 := 62) (as := [.ref 5, .long (25779555029136 : Int64), .int (48 : Int32)]) (r := []) rfl (fun _ => rfl) (fun q hq o ho => ms_62 (by omega) hq ho) (fun _ M1 h => ?_)
  show mm_Runs L xs (d + 1) 147 (100, [some (.ref 42), some (.int v1)], [], M1) o
  refine mm_Runs.seq (l := [(100, .aload_n 0, 1), (101, .getfield 44, 3), (104, .iload_n 1, 1), (105, .i2l, 1), (106, .bipush 32, 2)]) (S2 := (108, [some (.ref 42), some (.int v1)], [.int (32 : Int32), .long v1.toInt64, .ref 5], M1)) (by decide +kernel) (hO := mm_own_147) rfl ?_
  refine mm_R_call (v := mm_wv) h hA (k2 := 62) (as := [.ref 5, .long v1.toInt64, .int (32 : Int32)]) (r := []) rfl (fun _ => rfl) (fun q hq o ho => ms_62 (by omega) hq ho) (fun _ M2 h => ?_)
  show mm_Runs L xs (d + 1) 147 (111, [some (.ref 42), some (.int v1)], [], M2) o
  refine mm_Runs.seq (l := [(111, .aload_n 0, 1), (112, .getfield 44, 3)]) (S2 := (115, [some (.ref 42), some (.int v1)], [.ref 5], M2)) (by decide +kernel) (hO := mm_own_147) rfl ?_
  refine mm_R_call (v := mm_wv) h hA (k2 := 64) (as := [.ref 5]) (r := []) rfl (fun _ => rfl) (fun q hq o ho => ms_64 (by omega) hq ho) (fun _ M3 h => ?_)
  show mm_Runs L xs (d + 1) 147 (118, [some (.ref 42), some (.int v1)], [], M3) o
  cases h
  exact mm_R_retv rfl rfl hA
set_option maxRecDepth 8000 in
set_option maxHeartbeats 4000000 in
theorem ms_147 {L : Nat} {xs : Nat → Int32} {d : Nat} (hd : 5 ≤ d) {M : mm_M} {q : (Unit ⊕ Nat) × mm_M} {o : mm_E} (h : mf_147 M = some q) (hA : mm_A (mm_Kr mm_wv) q o) : mm_Runs L xs d 147 (0, mm_ent (mm_ml 147) [.ref 42], [], M) o := by
  unfold mf_147 at h
  obtain ⟨d, rfl⟩ := mm_d1 (n := 4) hd
  show mm_Runs L xs (d + 1) 147 (0, [some (.ref 42), none], [], M) o
  refine mm_Runs.seq (l := [(0, .aload_n 0, 1), (1, .getfield 44, 3), (4, .iconst 1, 1), (5, .putfield 163, 3), (8, .aload_n 0, 1), (9, .getfield 44, 3), (12, .bipush 66, 2)]) (S2 := (14, [some (.ref 42), none], [.int (66 : Int32), .ref 5], (mm_pi M 5 3 (1 : Int32)))) (by decide +kernel) (hO := mm_own_147) rfl ?_
  refine mm_R_call (v := mm_wv) h hA (k2 := 57) (as := [.ref 5, .int (66 : Int32)]) (r := []) rfl (fun _ => rfl) (fun q hq o ho => ms_57 (by omega) hq ho) (fun _ M1 h => ?_)
  show mm_Runs L xs (d + 1) 147 (17, [some (.ref 42), none], [], M1) o
  refine mm_Runs.seq (l := [(17, .aload_n 0, 1), (18, .getfield 44, 3), (21, .bipush 90, 2)]) (S2 := (23, [some (.ref 42), none], [.int (90 : Int32), .ref 5], M1)) (by decide +kernel) (hO := mm_own_147) rfl ?_
  refine mm_R_call (v := mm_wv) h hA (k2 := 57) (as := [.ref 5, .int (90 : Int32)]) (r := []) rfl (fun _ => rfl) (fun q hq o ho => ms_57 (by omega) hq ho) (fun _ M2 h => ?_)
  show mm_Runs L xs (d + 1) 147 (26, [some (.ref 42), none], [], M2) o
  refine mm_Runs.seq (l := [(26, .aload_n 0, 1), (27, .getfield 44, 3), (30, .bipush 104, 2)]) (S2 := (32, [some (.ref 42), none], [.int (104 : Int32), .ref 5], M2)) (by decide +kernel) (hO := mm_own_147) rfl ?_
  refine mm_R_call (v := mm_wv) h hA (k2 := 57) (as := [.ref 5, .int (104 : Int32)]) (r := []) rfl (fun _ => rfl) (fun q hq o ho => ms_57 (by omega) hq ho) (fun _ M3 h => ?_)
  show mm_Runs L xs (d + 1) 147 (35, [some (.ref 42), none], [], M3) o
  refine mm_Runs.seq (l := [(35, .aload_n 0, 1), (36, .getfield 44, 3), (39, .bipush 49, 2)]) (S2 := (41, [some (.ref 42), none], [.int (49 : Int32), .ref 5], M3)) (by decide +kernel) (hO := mm_own_147) rfl ?_
  refine mm_R_call (v := mm_wv) h hA (k2 := 57) (as := [.ref 5, .int (49 : Int32)]) (r := []) rfl (fun _ => rfl) (fun q hq o ho => ms_57 (by omega) hq ho) (fun _ M4 h => ?_)
  show mm_Runs L xs (d + 1) 147 (44, [some (.ref 42), none], [], M4) o
  refine mm_Runs.seq (l := [(44, .iconst 0, 1), (45, .istore_n 1, 1), (46, .aload_n 0, 1), (47, .getfield 36, 3), (50, .getfield 167, 3)]) (S2 := (53, [some (.ref 42), some (.int (0 : Int32))], [.int (M4.1 1 1)], M4)) (by decide +kernel) (hO := mm_own_147) rfl ?_
  refine mm_R_zle (t := 88) rfl rfl rfl (fun hc => ?_) (fun hc => ?_)
  · replace h := mm_ip hc h
    refine mm_Runs.seq (l := [(56, .aload_n 0, 1), (57, .getfield 36, 3), (60, .getfield 168, 3), (63, .iconst 0, 1), (64, .aload_n 0, 1), (65, .getfield 36, 3), (68, .getfield 167, 3)]) (S2 := (71, [some (.ref 42), some (.int (0 : Int32))], [.int (M4.1 1 1), .int (0 : Int32), .ref 2], M4)) (by decide +kernel) (hO := mm_own_147) rfl ?_
    refine mm_R_call (v := mm_wi) h hA (k2 := 29) (as := [.ref 2, .int (0 : Int32), .int (M4.1 1 1)]) (r := []) rfl (fun _ => rfl) (fun q hq o ho => ms_29 rfl (by omega) hq ho) (fun r5 M6 h => ?_)
    show mm_Runs L xs (d + 1) 147 (74, [some (.ref 42), some (.int (0 : Int32))], [.int r5], M6) o
    refine mm_Runs.seq (l := [(74, .istore_n 1, 1), (75, .aload_n 0, 1)]) (S2 := (76, [some (.ref 42), some (.int r5)], [.ref 42], M6)) (by decide +kernel) (hO := mm_own_147) rfl ?_
    refine mm_R_call (v := mm_wv) h hA (k2 := 148) (as := [.ref 42]) (r := []) rfl (fun _ => rfl) (fun q hq o ho => ms_148 (by omega) hq ho) (fun _ M7 h => ?_)
    show mm_Runs L xs (d + 1) 147 (79, [some (.ref 42), some (.int r5)], [], M7) o
    refine mm_Runs.seq (l := [(79, .aload_n 0, 1)]) (S2 := (80, [some (.ref 42), some (.int r5)], [.ref 42], M7)) (by decide +kernel) (hO := mm_own_147) rfl ?_
    refine mm_R_call (v := mm_wv) h hA (k2 := 150) (as := [.ref 42]) (r := []) rfl (fun _ => rfl) (fun q hq o ho => ms_150 (by omega) hq ho) (fun _ M8 h => ?_)
    show mm_Runs L xs (d + 1) 147 (83, [some (.ref 42), some (.int r5)], [], M8) o
    refine mm_Runs.seq (l := [(83, .aload_n 0, 1), (84, .iload_n 1, 1)]) (S2 := (85, [some (.ref 42), some (.int r5)], [.int r5, .ref 42], M8)) (by decide +kernel) (hO := mm_own_147) rfl ?_
    refine mm_R_call (v := mm_wv) h hA (k2 := 155) (as := [.ref 42, .int r5]) (r := []) rfl (fun _ => rfl) (fun q hq o ho => ms_155 (by omega) hq ho) (fun _ M9 h => ?_)
    show mm_Runs L xs (d + 1) 147 (88, [some (.ref 42), some (.int r5)], [], M9) o
    exact (ms_147_j88 hd h hA : mp_147_88 L xs (d + 1) r5 M9 o)
  · replace h := mm_iq hc h
    exact (ms_147_j88 hd h hA : mp_147_88 L xs (d + 1) (0 : Int32) M4 o)
-- 65: PlainPacks$Writer.carry()V (depth 0)
theorem mm_own_65 : mm_own 65 = 3 := rfl
def mp_65_9 (L : Nat) (xs : Nat → Int32) (d : Nat) (v1 : Int32) (v2 : Int32) (M : mm_M) (o : mm_E) : Prop := mm_Runs L xs d 65 (9, [some (.ref 5), some (.int v1), some (.int v2)], [], M) o
def mp_65_59 (L : Nat) (xs : Nat → Int32) (d : Nat) (M : mm_M) (o : mm_E) : Prop := ∀ z0 z1 z2 : Option Value, mm_Runs L xs d 65 (59, [z0, z1, z2], [], M) o
def mp_65_34 (L : Nat) (xs : Nat → Int32) (d : Nat) (v2 : Int32) (s0 : Int32) (M : mm_M) (o : mm_E) : Prop := ∀ z1 : Option Value, mm_Runs L xs d 65 (34, [some (.ref 5), z1, some (.int v2)], [.int s0], M) o
set_option maxRecDepth 8000 in
set_option maxHeartbeats 4000000 in
theorem ms_65_j34 {L : Nat} {xs : Nat → Int32} {d : Nat} (hd : 0 ≤ d) {v2 : Int32} {s0 : Int32} {M : mm_M} {q : (((Int32 × Int32) ⊕ (Unit)) ⊕ Nat) × mm_M} {o : mm_E} (h : mf_65_j34 v2 s0 M = some q) (hA : mm_A (mm_K2 (fun s M o => mp_65_9 L xs (d) s.1 s.2 M o) (fun r M o => mp_65_59 L xs (d) M o)) q o) : mp_65_34 L xs d v2 s0 M o := by
  unfold mf_65_j34 at h
  intro z1
  show mm_Runs L xs (d) 65 (34, [some (.ref 5), z1, some (.int v2)], [.int s0], M) o
  refine mm_Runs.seq (l := [(34, .istore_n 1, 1), (35, .aload_n 0, 1), (36, .getfield 9, 3), (39, .iload_n 2, 1), (40, .aload_n 0, 1), (41, .getfield 9, 3), (44, .iload_n 2, 1)]) (S2 := (45, [some (.ref 5), some (.int s0), some (.int v2)], [.int v2, .ref 6, .int v2, .ref 6], M)) (by decide +kernel) (hO := mm_own_65) rfl ?_
  obtain ⟨hb, h⟩ := mm_gd h
  refine mm_R_iald rfl rfl hb ?_
  refine mm_Runs.seq (l := [(46, .iconst 1, 1), (47, .iadd, 1), (48, .sipush 255, 3), (51, .iand, 1)]) (S2 := (52, [some (.ref 5), some (.int s0), some (.int v2)], [.int (((M.1 6 v2.toNatClampNeg) + (1 : Int32)) &&& (255 : Int32)), .int v2, .ref 6], M)) (by decide +kernel) (hO := mm_own_65) rfl ?_
  obtain ⟨hb, h⟩ := mm_gd h
  refine mm_R_iast rfl rfl hb ?_
  refine mm_Runs.seq (l := [(53, .iinc 2 (-1), 3), (56, .goto (-47), 3)]) (S2 := (9, [some (.ref 5), some (.int s0), some (.int (v2 + (-1 : Int32)))], [], (mm_pi M 6 v2.toNatClampNeg (((M.1 6 v2.toNatClampNeg) + (1 : Int32)) &&& (255 : Int32))))) (by decide +kernel) (hO := mm_own_65) rfl ?_
  cases h
  exact (show mp_65_9 L xs (d) s0 (v2 + (-1 : Int32)) (mm_pi M 6 v2.toNatClampNeg (((M.1 6 v2.toNatClampNeg) + (1 : Int32)) &&& (255 : Int32))) o from hA)
set_option maxRecDepth 8000 in
set_option maxHeartbeats 4000000 in
theorem ms_65_b9 {L : Nat} {xs : Nat → Int32} {d : Nat} (hd : 0 ≤ d) {v1 : Int32} {v2 : Int32} {M : mm_M} {q : (((Int32 × Int32) ⊕ (Unit)) ⊕ Nat) × mm_M} {o : mm_E} (h : mf_65_b9 v1 v2 M = some q) (hA : mm_A (mm_K2 (fun s M o => mp_65_9 L xs (d) s.1 s.2 M o) (fun r M o => mp_65_59 L xs (d) M o)) q o) : mp_65_9 L xs d v1 v2 M o := by
  unfold mf_65_b9 at h
  show mm_Runs L xs (d) 65 (9, [some (.ref 5), some (.int v1), some (.int v2)], [], M) o
  refine mm_Runs.seq (l := [(9, .iload_n 2, 1)]) (S2 := (10, [some (.ref 5), some (.int v1), some (.int v2)], [.int v2], M)) (by decide +kernel) (hO := mm_own_65) rfl ?_
  refine mm_R_zlt (t := 59) rfl rfl rfl (fun hc => ?_) (fun hc => ?_)
  · replace h := mm_ip hc h
    cases h
    exact (show mp_65_59 L xs (d) M o from hA) (some (.ref 5)) (some (.int v1)) (some (.int v2))
  · replace h := mm_iq hc h
    refine mm_Runs.seq (l := [(13, .iload_n 1, 1)]) (S2 := (14, [some (.ref 5), some (.int v1), some (.int v2)], [.int v1], M)) (by decide +kernel) (hO := mm_own_65) rfl ?_
    refine mm_R_zeq (t := 59) rfl rfl rfl (fun hc => ?_) (fun hc => ?_)
    · replace h := mm_ip hc h
      cases h
      exact (show mp_65_59 L xs (d) M o from hA) (some (.ref 5)) (some (.int v1)) (some (.int v2))
    · replace h := mm_iq hc h
      refine mm_Runs.seq (l := [(17, .aload_n 0, 1), (18, .getfield 9, 3), (21, .iload_n 2, 1)]) (S2 := (22, [some (.ref 5), some (.int v1), some (.int v2)], [.int v2, .ref 6], M)) (by decide +kernel) (hO := mm_own_65) rfl ?_
      obtain ⟨hb, h⟩ := mm_gd h
      refine mm_R_iald rfl rfl hb ?_
      refine mm_Runs.seq (l := [(23, .sipush 255, 3)]) (S2 := (26, [some (.ref 5), some (.int v1), some (.int v2)], [.int (255 : Int32), .int (M.1 6 v2.toNatClampNeg)], M)) (by decide +kernel) (hO := mm_own_65) rfl ?_
      refine mm_R_ine (t := 33) rfl rfl rfl (fun hc => ?_) (fun hc => ?_)
      · replace h := mm_ip hc h
        refine mm_Runs.seq (l := [(29, .iconst 1, 1), (30, .goto 4, 3)]) (S2 := (34, [some (.ref 5), some (.int v1), some (.int v2)], [.int (1 : Int32)], M)) (by decide +kernel) (hO := mm_own_65) rfl ?_
        exact (ms_65_j34 hd h hA : mp_65_34 L xs (d) v2 (1 : Int32) M o) (some (.int v1))
      · replace h := mm_iq hc h
        refine mm_Runs.seq (l := [(33, .iconst 0, 1)]) (S2 := (34, [some (.ref 5), some (.int v1), some (.int v2)], [.int (0 : Int32)], M)) (by decide +kernel) (hO := mm_own_65) rfl ?_
        exact (ms_65_j34 hd h hA : mp_65_34 L xs (d) v2 (0 : Int32) M o) (some (.int v1))
theorem ms_65_L9 {L : Nat} {xs : Nat → Int32} {d : Nat} (hd : 0 ≤ d) {v1 : Int32} {v2 : Int32} {β : Type} {K : β → mm_M → mm_E → Prop} {F : (Unit) → mm_M → mm_O β} {M : mm_M} {q : (β ⊕ Nat) × mm_M} {o : mm_E} (h : mm_B (mf_65_L9 (v1, v2) M) F = some q) (hA : mm_A K q o) (hx : ∀ (r : (Unit)) (M2 : mm_M), F r M2 = some q → (fun r M o => mp_65_59 L xs (d) M o) r M2 o) : mp_65_9 L xs d v1 v2 M o := by
  unfold mf_65_L9 at h
  exact mm_R_loop (step := (fun s M => mf_65_b9 s.1 s.2 M)) (s := (v1, v2)) (M := M) (P := (fun s M o => mp_65_9 L xs (d) s.1 s.2 M o)) (X := (fun r M o => mp_65_59 L xs (d) M o)) h hA (fun s M q hq hA => ms_65_b9 (v1 := s.1) (v2 := s.2) (M := M) (q := q) hd hq hA) hx
set_option maxRecDepth 8000 in
set_option maxHeartbeats 4000000 in
theorem ms_65 {L : Nat} {xs : Nat → Int32} {d : Nat} (hd : 0 ≤ d) {M : mm_M} {q : (Unit ⊕ Nat) × mm_M} {o : mm_E} (h : mf_65 M = some q) (hA : mm_A (mm_Kr mm_wv) q o) : mm_Runs L xs d 65 (0, mm_ent (mm_ml 65) [.ref 5], [], M) o := by
  unfold mf_65 at h
  show mm_Runs L xs (d) 65 (0, [some (.ref 5), none, none], [], M) o
  refine mm_Runs.seq (l := [(0, .iconst 1, 1), (1, .istore_n 1, 1), (2, .aload_n 0, 1), (3, .getfield 26, 3), (6, .iconst 1, 1), (7, .isub, 1), (8, .istore_n 2, 1)]) (S2 := (9, [some (.ref 5), some (.int (1 : Int32)), some (.int ((M.1 5 1) - (1 : Int32)))], [], M)) (by decide +kernel) (hO := mm_own_65) rfl ?_
  have hp : mp_65_9 L xs (d) (1 : Int32) ((M.1 5 1) - (1 : Int32)) M o := by
    refine ms_65_L9 hd h hA (fun r2 M1 h => ?_)
    intro y3 y4 y5
    show mm_Runs L xs (d) 65 (59, [y3, y4, y5], [], M1) o
    cases h
    exact mm_R_retv rfl rfl hA
  exact hp
-- 172: PlainPacks$Chances.writeBit(II)V (depth 1)
theorem mm_own_172 : mm_own 172 = 11 := rfl
def mp_172_113 (L : Nat) (xs : Nat → Int32) (d : Nat) (M : mm_M) (o : mm_E) : Prop := ∀ z1 z2 z3 z4 z5 : Option Value, mm_Runs L xs d 172 (113, [some (.ref 80), z1, z2, z3, z4, z5], [], M) o
set_option maxRecDepth 8000 in
set_option maxHeartbeats 4000000 in
theorem ms_172_j113 {L : Nat} {xs : Nat → Int32} {d : Nat} (hd : 1 ≤ d) {M : mm_M} {q : (Unit ⊕ Nat) × mm_M} {o : mm_E} (h : mf_172_j113 M = some q) (hA : mm_A (mm_Kr mm_wv) q o) : mp_172_113 L xs d M o := by
  unfold mf_172_j113 at h
  obtain ⟨d, rfl⟩ := mm_d1 (n := 0) hd
  intro z1 z2 z3 z4 z5
  show mm_Runs L xs (d + 1) 172 (113, [some (.ref 80), z1, z2, z3, z4, z5], [], M) o
  refine mm_Runs.seq (l := [(113, .aload_n 0, 1), (114, .getfield 35, 3), (117, .ldc2_w 119, 3)]) (S2 := (120, [some (.ref 80), z1, z2, z3, z4, z5], [.long (16777216 : Int64), .long (M.2.1 80 4)], M)) (by decide +kernel) (hO := mm_own_172) rfl ?_
  refine mm_R_lge (t := 167) rfl rfl rfl rfl (fun hc => ?_) (fun hc => ?_)
  · replace h := mm_ip hc h
    refine mm_Runs.seq (l := [(124, .aload_n 0, 1), (125, .dup, 1), (126, .getfield 35, 3), (129, .ldc2_w 121, 3), (132, .lmul, 1), (133, .putfield 35, 3), (136, .aload_n 0, 1), (137, .getfield 23, 3), (140, .aload_n 0, 1), (141, .getfield 172, 3), (144, .bipush 24, 2), (146, .lushr, 1), (147, .l2i, 1)]) (S2 := (148, [some (.ref 80), z1, z2, z3, z4, z5], [.int (mm_lush (M.2.1 80 15) (24 : Int32)).toInt32, .ref 5], (mm_pl M 80 4 ((M.2.1 80 4) * (256 : Int64))))) (by decide +kernel) (hO := mm_own_172) rfl ?_
    refine mm_R_call (v := mm_wv) h hA (k2 := 57) (as := [.ref 5, .int (mm_lush (M.2.1 80 15) (24 : Int32)).toInt32]) (r := []) rfl (fun _ => rfl) (fun q hq o ho => ms_57 (by omega) hq ho) (fun _ M1 h => ?_)
    show mm_Runs L xs (d + 1) 172 (151, [some (.ref 80), z1, z2, z3, z4, z5], [], M1) o
    refine mm_Runs.seq (l := [(151, .aload_n 0, 1), (152, .aload_n 0, 1), (153, .getfield 172, 3), (156, .ldc2_w 121, 3), (159, .lmul, 1), (160, .ldc2_w 33, 3), (163, .land, 1), (164, .putfield 172, 3)]) (S2 := (167, [some (.ref 80), z1, z2, z3, z4, z5], [], (mm_pl M1 80 15 (((M1.2.1 80 15) * (256 : Int64)) &&& (4294967295 : Int64))))) (by decide +kernel) (hO := mm_own_172) rfl ?_
    cases h
    exact mm_R_retv rfl rfl hA
  · replace h := mm_iq hc h
    cases h
    exact mm_R_retv rfl rfl hA
set_option maxRecDepth 8000 in
set_option maxHeartbeats 4000000 in
theorem ms_172 {L : Nat} {xs : Nat → Int32} {d : Nat} (hd : 1 ≤ d) {v1 : Int32} {v2 : Int32} {M : mm_M} {q : (Unit ⊕ Nat) × mm_M} {o : mm_E} (h : mf_172 v1 v2 M = some q) (hA : mm_A (mm_Kr mm_wv) q o) : mm_Runs L xs d 172 (0, mm_ent (mm_ml 172) [.ref 80, .int v1, .int v2], [], M) o := by
  unfold mf_172 at h
  obtain ⟨d, rfl⟩ := mm_d1 (n := 0) hd
  show mm_Runs L xs (d + 1) 172 (0, [some (.ref 80), some (.int v1), some (.int v2), none, none, none], [], M) o
  refine mm_Runs.seq (l := [(0, .aload_n 0, 1), (1, .getfield 11, 3), (4, .iload_n 1, 1)]) (S2 := (5, [some (.ref 80), some (.int v1), some (.int v2), none, none, none], [.int v1, .ref 81], M)) (by decide +kernel) (hO := mm_own_172) rfl ?_
  obtain ⟨hb, h⟩ := mm_gd h
  refine mm_R_iald rfl rfl hb ?_
  refine mm_Runs.seq (l := [(6, .istore_n 3, 1), (7, .aload_n 0, 1), (8, .getfield 35, 3), (11, .ldc2_w 117, 3), (14, .ldiv, 1), (15, .iload_n 3, 1), (16, .i2l, 1), (17, .lmul, 1), (18, .lstore 4, 2), (20, .iload_n 2, 1)]) (S2 := (21, [some (.ref 80), some (.int v1), some (.int v2), some (.int (M.1 81 v1.toNatClampNeg)), some (.long (((M.2.1 80 4) / (2048 : Int64)) * (M.1 81 v1.toNatClampNeg).toInt64)), none], [.int v2], M)) (by decide +kernel) (hO := mm_own_172) rfl ?_
  refine mm_R_zne (t := 49) rfl rfl rfl (fun hc => ?_) (fun hc => ?_)
  · replace h := mm_ip hc h
    refine mm_Runs.seq (l := [(24, .aload_n 0, 1), (25, .lload 4, 2), (27, .putfield 35, 3), (30, .aload_n 0, 1), (31, .getfield 11, 3), (34, .iload_n 1, 1), (35, .iload_n 3, 1), (36, .sipush 2048, 3), (39, .iload_n 3, 1), (40, .isub, 1), (41, .bipush 32, 2), (43, .idiv, 1), (44, .iadd, 1)]) (S2 := (45, [some (.ref 80), some (.int v1), some (.int v2), some (.int (M.1 81 v1.toNatClampNeg)), some (.long (((M.2.1 80 4) / (2048 : Int64)) * (M.1 81 v1.toNatClampNeg).toInt64)), none], [.int ((M.1 81 v1.toNatClampNeg) + (((2048 : Int32) - (M.1 81 v1.toNatClampNeg)) / (32 : Int32))), .int v1, .ref 81], (mm_pl M 80 4 (((M.2.1 80 4) / (2048 : Int64)) * (M.1 81 v1.toNatClampNeg).toInt64)))) (by decide +kernel) (hO := mm_own_172) rfl ?_
    obtain ⟨hb, h⟩ := mm_gd h
    refine mm_R_iast rfl rfl hb ?_
    refine mm_Runs.seq (l := [(46, .goto 67, 3)]) (S2 := (113, [some (.ref 80), some (.int v1), some (.int v2), some (.int (M.1 81 v1.toNatClampNeg)), some (.long (((M.2.1 80 4) / (2048 : Int64)) * (M.1 81 v1.toNatClampNeg).toInt64)), none], [], (mm_pi (mm_pl M 80 4 (((M.2.1 80 4) / (2048 : Int64)) * (M.1 81 v1.toNatClampNeg).toInt64)) 81 v1.toNatClampNeg ((M.1 81 v1.toNatClampNeg) + (((2048 : Int32) - (M.1 81 v1.toNatClampNeg)) / (32 : Int32)))))) (by decide +kernel) (hO := mm_own_172) rfl ?_
    exact (ms_172_j113 hd h hA : mp_172_113 L xs (d + 1) (mm_pi (mm_pl M 80 4 (((M.2.1 80 4) / (2048 : Int64)) * (M.1 81 v1.toNatClampNeg).toInt64)) 81 v1.toNatClampNeg ((M.1 81 v1.toNatClampNeg) + (((2048 : Int32) - (M.1 81 v1.toNatClampNeg)) / (32 : Int32)))) o) (some (.int v1)) (some (.int v2)) (some (.int (M.1 81 v1.toNatClampNeg))) (some (.long (((M.2.1 80 4) / (2048 : Int64)) * (M.1 81 v1.toNatClampNeg).toInt64))) none
  · replace h := mm_iq hc h
    refine mm_Runs.seq (l := [(49, .aload_n 0, 1), (50, .dup, 1), (51, .getfield 35, 3), (54, .lload 4, 2), (56, .lsub, 1), (57, .putfield 35, 3), (60, .aload_n 0, 1), (61, .getfield 11, 3), (64, .iload_n 1, 1), (65, .iload_n 3, 1), (66, .iload_n 3, 1), (67, .bipush 32, 2), (69, .idiv, 1), (70, .isub, 1)]) (S2 := (71, [some (.ref 80), some (.int v1), some (.int v2), some (.int (M.1 81 v1.toNatClampNeg)), some (.long (((M.2.1 80 4) / (2048 : Int64)) * (M.1 81 v1.toNatClampNeg).toInt64)), none], [.int ((M.1 81 v1.toNatClampNeg) - ((M.1 81 v1.toNatClampNeg) / (32 : Int32))), .int v1, .ref 81], (mm_pl M 80 4 ((M.2.1 80 4) - (((M.2.1 80 4) / (2048 : Int64)) * (M.1 81 v1.toNatClampNeg).toInt64))))) (by decide +kernel) (hO := mm_own_172) rfl ?_
    obtain ⟨hb, h⟩ := mm_gd h
    refine mm_R_iast rfl rfl hb ?_
    refine mm_Runs.seq (l := [(72, .aload_n 0, 1), (73, .dup, 1), (74, .getfield 172, 3), (77, .lload 4, 2), (79, .ladd, 1), (80, .putfield 172, 3), (83, .aload_n 0, 1), (84, .getfield 172, 3), (87, .ldc2_w 33, 3)]) (S2 := (90, [some (.ref 80), some (.int v1), some (.int v2), some (.int (M.1 81 v1.toNatClampNeg)), some (.long (((M.2.1 80 4) / (2048 : Int64)) * (M.1 81 v1.toNatClampNeg).toInt64)), none], [.long (4294967295 : Int64), .long ((M.2.1 80 15) + (((M.2.1 80 4) / (2048 : Int64)) * (M.1 81 v1.toNatClampNeg).toInt64))], (mm_pl (mm_pi (mm_pl M 80 4 ((M.2.1 80 4) - (((M.2.1 80 4) / (2048 : Int64)) * (M.1 81 v1.toNatClampNeg).toInt64))) 81 v1.toNatClampNeg ((M.1 81 v1.toNatClampNeg) - ((M.1 81 v1.toNatClampNeg) / (32 : Int32)))) 80 15 ((M.2.1 80 15) + (((M.2.1 80 4) / (2048 : Int64)) * (M.1 81 v1.toNatClampNeg).toInt64))))) (by decide +kernel) (hO := mm_own_172) rfl ?_
    refine mm_R_lle (t := 113) rfl rfl rfl rfl (fun hc => ?_) (fun hc => ?_)
    · replace h := mm_ip hc h
      refine mm_Runs.seq (l := [(94, .aload_n 0, 1), (95, .dup, 1), (96, .getfield 172, 3), (99, .ldc2_w 33, 3), (102, .land, 1), (103, .putfield 172, 3), (106, .aload_n 0, 1), (107, .getfield 23, 3)]) (S2 := (110, [some (.ref 80), some (.int v1), some (.int v2), some (.int (M.1 81 v1.toNatClampNeg)), some (.long (((M.2.1 80 4) / (2048 : Int64)) * (M.1 81 v1.toNatClampNeg).toInt64)), none], [.ref 5], (mm_pl (mm_pl (mm_pi (mm_pl M 80 4 ((M.2.1 80 4) - (((M.2.1 80 4) / (2048 : Int64)) * (M.1 81 v1.toNatClampNeg).toInt64))) 81 v1.toNatClampNeg ((M.1 81 v1.toNatClampNeg) - ((M.1 81 v1.toNatClampNeg) / (32 : Int32)))) 80 15 ((M.2.1 80 15) + (((M.2.1 80 4) / (2048 : Int64)) * (M.1 81 v1.toNatClampNeg).toInt64))) 80 15 (((M.2.1 80 15) + (((M.2.1 80 4) / (2048 : Int64)) * (M.1 81 v1.toNatClampNeg).toInt64)) &&& (4294967295 : Int64))))) (by decide +kernel) (hO := mm_own_172) rfl ?_
      refine mm_R_call (v := mm_wv) h hA (k2 := 65) (as := [.ref 5]) (r := []) rfl (fun _ => rfl) (fun q hq o ho => ms_65 (by omega) hq ho) (fun _ M1 h => ?_)
      show mm_Runs L xs (d + 1) 172 (113, [some (.ref 80), some (.int v1), some (.int v2), some (.int (M.1 81 v1.toNatClampNeg)), some (.long (((M.2.1 80 4) / (2048 : Int64)) * (M.1 81 v1.toNatClampNeg).toInt64)), none], [], M1) o
      exact (ms_172_j113 hd h hA : mp_172_113 L xs (d + 1) M1 o) (some (.int v1)) (some (.int v2)) (some (.int (M.1 81 v1.toNatClampNeg))) (some (.long (((M.2.1 80 4) / (2048 : Int64)) * (M.1 81 v1.toNatClampNeg).toInt64))) none
    · replace h := mm_iq hc h
      exact (ms_172_j113 hd h hA : mp_172_113 L xs (d + 1) (mm_pl (mm_pi (mm_pl M 80 4 ((M.2.1 80 4) - (((M.2.1 80 4) / (2048 : Int64)) * (M.1 81 v1.toNatClampNeg).toInt64))) 81 v1.toNatClampNeg ((M.1 81 v1.toNatClampNeg) - ((M.1 81 v1.toNatClampNeg) / (32 : Int32)))) 80 15 ((M.2.1 80 15) + (((M.2.1 80 4) / (2048 : Int64)) * (M.1 81 v1.toNatClampNeg).toInt64))) o) (some (.int v1)) (some (.int v2)) (some (.int (M.1 81 v1.toNatClampNeg))) (some (.long (((M.2.1 80 4) / (2048 : Int64)) * (M.1 81 v1.toNatClampNeg).toInt64))) none
