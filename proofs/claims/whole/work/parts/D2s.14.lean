/-! MEANINGS ARE SOUND 14 -/
-- 200: PlainPacksModel.taken(II)J (depth 0)
theorem mm_own_200 : mm_own 200 = 12 := rfl
def mp_200_9 (L : Nat) (xs : Nat → Int32) (d : Nat) (v1 : Int32) (v2 : Int32) (v3 : Int64) (v5 : Int32) (M : mm_M) (o : mm_E) : Prop := ∀ z4 : Option Value, mm_Runs L xs d 200 (9, [some (.ref 84), some (.int v1), some (.int v2), some (.long v3), z4, some (.int v5)], [], M) o
def mp_200_56 (L : Nat) (xs : Nat → Int32) (d : Nat) (v3 : Int64) (M : mm_M) (o : mm_E) : Prop := ∀ z0 z1 z2 z4 z5 : Option Value, mm_Runs L xs d 200 (56, [z0, z1, z2, some (.long v3), z4, z5], [], M) o
set_option maxRecDepth 8000 in
set_option maxHeartbeats 4000000 in
theorem ms_200_b9 {L : Nat} {xs : Nat → Int32} {d : Nat} (hd : 0 ≤ d) {v1 : Int32} {v2 : Int32} {v3 : Int64} {v5 : Int32} {M : mm_M} {q : (((Int64 × Int32) ⊕ (Int64)) ⊕ Nat) × mm_M} {o : mm_E} (h : mf_200_b9 v1 v2 v3 v5 M = some q) (hA : mm_A (mm_K2 (fun s M o => mp_200_9 L xs (d) v1 v2 s.1 s.2 M o) (fun r M o => mp_200_56 L xs (d) r M o)) q o) : mp_200_9 L xs d v1 v2 v3 v5 M o := by
  unfold mf_200_b9 at h
  intro z4
  show mm_Runs L xs (d) 200 (9, [some (.ref 84), some (.int v1), some (.int v2), some (.long v3), z4, some (.int v5)], [], M) o
  refine mm_Runs.seq (l := [(9, .iload 5, 2), (11, .sipush 300, 3), (14, .iload_n 1, 1), (15, .imul, 1), (16, .iload_n 2, 1), (17, .iadd, 1)]) (S2 := (18, [some (.ref 84), some (.int v1), some (.int v2), some (.long v3), z4, some (.int v5)], [.int (((300 : Int32) * v1) + v2), .int v5], M)) (by decide +kernel) (hO := mm_own_200) rfl ?_
  refine mm_R_ige (t := 56) rfl rfl rfl (fun hc => ?_) (fun hc => ?_)
  · replace h := mm_ip hc h
    refine mm_Runs.seq (l := [(21, .lload_n 3, 1), (22, .aload_n 0, 1), (23, .getfield 16, 3), (26, .iload 5, 2)]) (S2 := (28, [some (.ref 84), some (.int v1), some (.int v2), some (.long v3), z4, some (.int v5)], [.int v5, .ref 87, .long v3], M)) (by decide +kernel) (hO := mm_own_200) rfl ?_
    obtain ⟨hb, h⟩ := mm_gd h
    refine mm_R_iald rfl rfl hb ?_
    refine mm_R_zne (t := 36) rfl rfl rfl (fun hc => ?_) (fun hc => ?_)
    · replace h := mm_ip hc h
      refine mm_Runs.seq (l := [(32, .lconst 0, 1), (33, .goto 15, 3), (48, .ladd, 1), (49, .lstore_n 3, 1), (50, .iinc 5 1, 3), (53, .goto (-44), 3)]) (S2 := (9, [some (.ref 84), some (.int v1), some (.int v2), some (.long (v3 + (0 : Int64))), none, some (.int (v5 + (1 : Int32)))], [], M)) (by decide +kernel) (hO := mm_own_200) rfl ?_
      cases h
      exact (show mp_200_9 L xs (d) v1 v2 (v3 + (0 : Int64)) (v5 + (1 : Int32)) M o from hA) none
    · replace h := mm_iq hc h
      refine mm_Runs.seq (l := [(36, .lconst 1, 1), (37, .bipush 20, 2), (39, .aload_n 0, 1), (40, .getfield 16, 3), (43, .iload 5, 2)]) (S2 := (45, [some (.ref 84), some (.int v1), some (.int v2), some (.long v3), z4, some (.int v5)], [.int v5, .ref 87, .int (20 : Int32), .long (1 : Int64), .long v3], M)) (by decide +kernel) (hO := mm_own_200) rfl ?_
      obtain ⟨hb, h⟩ := mm_gd h
      refine mm_R_iald rfl rfl hb ?_
      refine mm_Runs.seq (l := [(46, .isub, 1), (47, .lshl, 1), (48, .ladd, 1), (49, .lstore_n 3, 1), (50, .iinc 5 1, 3), (53, .goto (-44), 3)]) (S2 := (9, [some (.ref 84), some (.int v1), some (.int v2), some (.long (v3 + (mm_lshl (1 : Int64) ((20 : Int32) - (M.1 87 v5.toNatClampNeg))))), none, some (.int (v5 + (1 : Int32)))], [], M)) (by decide +kernel) (hO := mm_own_200) rfl ?_
      cases h
      exact (show mp_200_9 L xs (d) v1 v2 (v3 + (mm_lshl (1 : Int64) ((20 : Int32) - (M.1 87 v5.toNatClampNeg)))) (v5 + (1 : Int32)) M o from hA) none
  · replace h := mm_iq hc h
    cases h
    exact (show mp_200_56 L xs (d) v3 M o from hA) (some (.ref 84)) (some (.int v1)) (some (.int v2)) z4 (some (.int v5))
theorem ms_200_L9 {L : Nat} {xs : Nat → Int32} {d : Nat} (hd : 0 ≤ d) {v1 : Int32} {v2 : Int32} {v3 : Int64} {v5 : Int32} {β : Type} {K : β → mm_M → mm_E → Prop} {F : (Int64) → mm_M → mm_O β} {M : mm_M} {q : (β ⊕ Nat) × mm_M} {o : mm_E} (h : mm_B (mf_200_L9 v1 v2 (v3, v5) M) F = some q) (hA : mm_A K q o) (hx : ∀ (r : (Int64)) (M2 : mm_M), F r M2 = some q → (fun r M o => mp_200_56 L xs (d) r M o) r M2 o) : mp_200_9 L xs d v1 v2 v3 v5 M o := by
  unfold mf_200_L9 at h
  exact mm_R_loop (step := (fun s M => mf_200_b9 v1 v2 s.1 s.2 M)) (s := (v3, v5)) (M := M) (P := (fun s M o => mp_200_9 L xs (d) v1 v2 s.1 s.2 M o)) (X := (fun r M o => mp_200_56 L xs (d) r M o)) h hA (fun s M q hq hA => ms_200_b9 (v1 := v1) (v2 := v2) (v3 := s.1) (v5 := s.2) (M := M) (q := q) hd hq hA) hx
set_option maxRecDepth 8000 in
set_option maxHeartbeats 4000000 in
theorem ms_200 {L : Nat} {xs : Nat → Int32} {d : Nat} (hd : 0 ≤ d) {v1 : Int32} {v2 : Int32} {M : mm_M} {q : (Int64 ⊕ Nat) × mm_M} {o : mm_E} (h : mf_200 v1 v2 M = some q) (hA : mm_A (mm_Kr mm_wl) q o) : mm_Runs L xs d 200 (0, mm_ent (mm_ml 200) [.ref 84, .int v1, .int v2], [], M) o := by
  unfold mf_200 at h
  show mm_Runs L xs (d) 200 (0, [some (.ref 84), some (.int v1), some (.int v2), none, none, none], [], M) o
  refine mm_Runs.seq (l := [(0, .lconst 0, 1), (1, .lstore_n 3, 1), (2, .sipush 300, 3), (5, .iload_n 1, 1), (6, .imul, 1), (7, .istore 5, 2)]) (S2 := (9, [some (.ref 84), some (.int v1), some (.int v2), some (.long (0 : Int64)), none, some (.int ((300 : Int32) * v1))], [], M)) (by decide +kernel) (hO := mm_own_200) rfl ?_
  have hp : mp_200_9 L xs (d) v1 v2 (0 : Int64) ((300 : Int32) * v1) M o := by
    refine ms_200_L9 hd h hA (fun r2 M1 h => ?_)
    intro y3 y4 y5 y6 y7
    show mm_Runs L xs (d) 200 (56, [y3, y4, y5, some (.long r2), y6, y7], [], M1) o
    refine mm_Runs.seq (l := [(56, .lload_n 3, 1)]) (S2 := (57, [y3, y4, y5, some (.long r2), y6, y7], [.long r2], M1)) (by decide +kernel) (hO := mm_own_200) rfl ?_
    cases h
    exact mm_R_retl rfl rfl hA
  exact hp none
-- 201: PlainPacksModel.isFit(IIZ)Z (depth 1)
theorem mm_own_201 : mm_own 201 = 12 := rfl
def mp_201_13 (L : Nat) (xs : Nat → Int32) (d : Nat) (v1 : Int32) (v2 : Int32) (v3 : Int32) (v4 : Int32) (v5 : Int32) (v6 : Int32) (M : mm_M) (o : mm_E) : Prop := mm_Runs L xs d 201 (13, [some (.ref 84), some (.int v1), some (.int v2), some (.int v3), some (.int v4), some (.int v5), some (.int v6)], [], M) o
def mp_201_72 (L : Nat) (xs : Nat → Int32) (d : Nat) (v1 : Int32) (v2 : Int32) (v3 : Int32) (v4 : Int32) (v5 : Int32) (M : mm_M) (o : mm_E) : Prop := ∀ z6 : Option Value, mm_Runs L xs d 201 (72, [some (.ref 84), some (.int v1), some (.int v2), some (.int v3), some (.int v4), some (.int v5), z6], [], M) o
def mp_201_42 (L : Nat) (xs : Nat → Int32) (d : Nat) (v1 : Int32) (v2 : Int32) (v3 : Int32) (v5 : Int32) (v6 : Int32) (s0 : Int32) (s1 : Int32) (M : mm_M) (o : mm_E) : Prop := ∀ z4 : Option Value, mm_Runs L xs d 201 (42, [some (.ref 84), some (.int v1), some (.int v2), some (.int v3), z4, some (.int v5), some (.int v6)], [.int s1, .int s0], M) o
set_option maxRecDepth 8000 in
set_option maxHeartbeats 4000000 in
theorem ms_201_j42 {L : Nat} {xs : Nat → Int32} {d : Nat} (hd : 1 ≤ d) {v1 : Int32} {v2 : Int32} {v3 : Int32} {v5 : Int32} {v6 : Int32} {s0 : Int32} {s1 : Int32} {M : mm_M} {q : (((Int32 × Int32 × Int32) ⊕ (Int32 × Int32)) ⊕ Nat) × mm_M} {o : mm_E} (h : mf_201_j42 v1 v2 v3 v5 v6 s0 s1 M = some q) (hA : mm_A (mm_K2 (fun s M o => mp_201_13 L xs (d) v1 v2 v3 s.1 s.2.1 s.2.2 M o) (fun r M o => mp_201_72 L xs (d) v1 v2 v3 r.1 r.2 M o)) q o) : mp_201_42 L xs d v1 v2 v3 v5 v6 s0 s1 M o := by
  unfold mf_201_j42 at h
  obtain ⟨d, rfl⟩ := mm_d1 (n := 0) hd
  intro z4
  show mm_Runs L xs (d + 1) 201 (42, [some (.ref 84), some (.int v1), some (.int v2), some (.int v3), z4, some (.int v5), some (.int v6)], [.int s1, .int s0], M) o
  refine mm_Runs.seq (l := [(42, .iadd, 1), (43, .istore 4, 2), (45, .iload 5, 2), (47, .aload_n 0, 1), (48, .getfield 16, 3), (51, .iload 6, 2)]) (S2 := (53, [some (.ref 84), some (.int v1), some (.int v2), some (.int v3), some (.int (s0 + s1)), some (.int v5), some (.int v6)], [.int v6, .ref 87, .int v5], M)) (by decide +kernel) (hO := mm_own_201) rfl ?_
  obtain ⟨hb, h⟩ := mm_gd h
  refine mm_R_iald rfl rfl hb ?_
  refine mm_Runs.seq (l := [(54, .iconst 1, 1)]) (S2 := (55, [some (.ref 84), some (.int v1), some (.int v2), some (.int v3), some (.int (s0 + s1)), some (.int v5), some (.int v6)], [.int (1 : Int32), .int (M.1 87 v6.toNatClampNeg), .int v5], M)) (by decide +kernel) (hO := mm_own_201) rfl ?_
  refine mm_R_ine (t := 62) rfl rfl rfl (fun hc => ?_) (fun hc => ?_)
  · replace h := mm_ip hc h
    refine mm_Runs.seq (l := [(58, .iconst 1, 1), (59, .goto 4, 3), (63, .iadd, 1), (64, .istore 5, 2), (66, .iinc 6 1, 3), (69, .goto (-56), 3)]) (S2 := (13, [some (.ref 84), some (.int v1), some (.int v2), some (.int v3), some (.int (s0 + s1)), some (.int (v5 + (1 : Int32))), some (.int (v6 + (1 : Int32)))], [], M)) (by decide +kernel) (hO := mm_own_201) rfl ?_
    cases h
    exact (show mp_201_13 L xs (d + 1) v1 v2 v3 (s0 + s1) (v5 + (1 : Int32)) (v6 + (1 : Int32)) M o from hA)
  · replace h := mm_iq hc h
    refine mm_Runs.seq (l := [(62, .iconst 0, 1), (63, .iadd, 1), (64, .istore 5, 2), (66, .iinc 6 1, 3), (69, .goto (-56), 3)]) (S2 := (13, [some (.ref 84), some (.int v1), some (.int v2), some (.int v3), some (.int (s0 + s1)), some (.int (v5 + (0 : Int32))), some (.int (v6 + (1 : Int32)))], [], M)) (by decide +kernel) (hO := mm_own_201) rfl ?_
    cases h
    exact (show mp_201_13 L xs (d + 1) v1 v2 v3 (s0 + s1) (v5 + (0 : Int32)) (v6 + (1 : Int32)) M o from hA)
set_option maxRecDepth 8000 in
set_option maxHeartbeats 4000000 in
theorem ms_201_b13 {L : Nat} {xs : Nat → Int32} {d : Nat} (hd : 1 ≤ d) {v1 : Int32} {v2 : Int32} {v3 : Int32} {v4 : Int32} {v5 : Int32} {v6 : Int32} {M : mm_M} {q : (((Int32 × Int32 × Int32) ⊕ (Int32 × Int32)) ⊕ Nat) × mm_M} {o : mm_E} (h : mf_201_b13 v1 v2 v3 v4 v5 v6 M = some q) (hA : mm_A (mm_K2 (fun s M o => mp_201_13 L xs (d) v1 v2 v3 s.1 s.2.1 s.2.2 M o) (fun r M o => mp_201_72 L xs (d) v1 v2 v3 r.1 r.2 M o)) q o) : mp_201_13 L xs d v1 v2 v3 v4 v5 v6 M o := by
  unfold mf_201_b13 at h
  obtain ⟨d, rfl⟩ := mm_d1 (n := 0) hd
  show mm_Runs L xs (d + 1) 201 (13, [some (.ref 84), some (.int v1), some (.int v2), some (.int v3), some (.int v4), some (.int v5), some (.int v6)], [], M) o
  refine mm_Runs.seq (l := [(13, .iload 6, 2), (15, .sipush 300, 3), (18, .iload_n 1, 1), (19, .imul, 1), (20, .iload_n 2, 1), (21, .iadd, 1)]) (S2 := (22, [some (.ref 84), some (.int v1), some (.int v2), some (.int v3), some (.int v4), some (.int v5), some (.int v6)], [.int (((300 : Int32) * v1) + v2), .int v6], M)) (by decide +kernel) (hO := mm_own_201) rfl ?_
  refine mm_R_ige (t := 72) rfl rfl rfl (fun hc => ?_) (fun hc => ?_)
  · replace h := mm_ip hc h
    refine mm_Runs.seq (l := [(25, .iload 4, 2), (27, .aload_n 0, 1), (28, .getfield 16, 3), (31, .iload 6, 2)]) (S2 := (33, [some (.ref 84), some (.int v1), some (.int v2), some (.int v3), some (.int v4), some (.int v5), some (.int v6)], [.int v6, .ref 87, .int v4], M)) (by decide +kernel) (hO := mm_own_201) rfl ?_
    obtain ⟨hb, h⟩ := mm_gd h
    refine mm_R_iald rfl rfl hb ?_
    refine mm_R_zle (t := 41) rfl rfl rfl (fun hc => ?_) (fun hc => ?_)
    · replace h := mm_ip hc h
      refine mm_Runs.seq (l := [(37, .iconst 1, 1), (38, .goto 4, 3)]) (S2 := (42, [some (.ref 84), some (.int v1), some (.int v2), some (.int v3), some (.int v4), some (.int v5), some (.int v6)], [.int (1 : Int32), .int v4], M)) (by decide +kernel) (hO := mm_own_201) rfl ?_
      exact (ms_201_j42 hd h hA : mp_201_42 L xs (d + 1) v1 v2 v3 v5 v6 v4 (1 : Int32) M o) (some (.int v4))
    · replace h := mm_iq hc h
      refine mm_Runs.seq (l := [(41, .iconst 0, 1)]) (S2 := (42, [some (.ref 84), some (.int v1), some (.int v2), some (.int v3), some (.int v4), some (.int v5), some (.int v6)], [.int (0 : Int32), .int v4], M)) (by decide +kernel) (hO := mm_own_201) rfl ?_
      exact (ms_201_j42 hd h hA : mp_201_42 L xs (d + 1) v1 v2 v3 v5 v6 v4 (0 : Int32) M o) (some (.int v4))
  · replace h := mm_iq hc h
    cases h
    exact (show mp_201_72 L xs (d + 1) v1 v2 v3 v4 v5 M o from hA) (some (.int v6))
theorem ms_201_L13 {L : Nat} {xs : Nat → Int32} {d : Nat} (hd : 1 ≤ d) {v1 : Int32} {v2 : Int32} {v3 : Int32} {v4 : Int32} {v5 : Int32} {v6 : Int32} {β : Type} {K : β → mm_M → mm_E → Prop} {F : (Int32 × Int32) → mm_M → mm_O β} {M : mm_M} {q : (β ⊕ Nat) × mm_M} {o : mm_E} (h : mm_B (mf_201_L13 v1 v2 v3 (v4, v5, v6) M) F = some q) (hA : mm_A K q o) (hx : ∀ (r : (Int32 × Int32)) (M2 : mm_M), F r M2 = some q → (fun r M o => mp_201_72 L xs (d) v1 v2 v3 r.1 r.2 M o) r M2 o) : mp_201_13 L xs d v1 v2 v3 v4 v5 v6 M o := by
  unfold mf_201_L13 at h
  exact mm_R_loop (step := (fun s M => mf_201_b13 v1 v2 v3 s.1 s.2.1 s.2.2 M)) (s := (v4, v5, v6)) (M := M) (P := (fun s M o => mp_201_13 L xs (d) v1 v2 v3 s.1 s.2.1 s.2.2 M o)) (X := (fun r M o => mp_201_72 L xs (d) v1 v2 v3 r.1 r.2 M o)) h hA (fun s M q hq hA => ms_201_b13 (v1 := v1) (v2 := v2) (v3 := v3) (v4 := s.1) (v5 := s.2.1) (v6 := s.2.2) (M := M) (q := q) hd hq hA) hx
def mp_201_97 (L : Nat) (xs : Nat → Int32) (d : Nat) (v3 : Int32) (v4 : Int32) (M : mm_M) (o : mm_E) : Prop := ∀ z0 z1 z2 z5 z6 : Option Value, mm_Runs L xs d 201 (97, [z0, z1, z2, some (.int v3), some (.int v4), z5, z6], [], M) o
set_option maxRecDepth 8000 in
set_option maxHeartbeats 4000000 in
theorem ms_201_j97 {L : Nat} {xs : Nat → Int32} {d : Nat} (hd : 1 ≤ d) {v3 : Int32} {v4 : Int32} {M : mm_M} {q : (Int32 ⊕ Nat) × mm_M} {o : mm_E} (h : mf_201_j97 v3 v4 M = some q) (hA : mm_A (mm_Kr mm_wi) q o) : mp_201_97 L xs d v3 v4 M o := by
  unfold mf_201_j97 at h
  obtain ⟨d, rfl⟩ := mm_d1 (n := 0) hd
  intro z0 z1 z2 z5 z6
  show mm_Runs L xs (d + 1) 201 (97, [z0, z1, z2, some (.int v3), some (.int v4), z5, z6], [], M) o
  refine mm_Runs.seq (l := [(97, .iload_n 3, 1)]) (S2 := (98, [z0, z1, z2, some (.int v3), some (.int v4), z5, z6], [.int v3], M)) (by decide +kernel) (hO := mm_own_201) rfl ?_
  refine mm_R_zeq (t := 110) rfl rfl rfl (fun hc => ?_) (fun hc => ?_)
  · replace h := mm_ip hc h
    refine mm_Runs.seq (l := [(110, .iconst 0, 1)]) (S2 := (111, [z0, z1, z2, some (.int v3), some (.int v4), z5, z6], [.int (0 : Int32)], M)) (by decide +kernel) (hO := mm_own_201) rfl ?_
    cases h
    exact mm_R_retb rfl rfl rfl hA
  · replace h := mm_iq hc h
    refine mm_Runs.seq (l := [(101, .iload 4, 2)]) (S2 := (103, [z0, z1, z2, some (.int v3), some (.int v4), z5, z6], [.int v4], M)) (by decide +kernel) (hO := mm_own_201) rfl ?_
    refine mm_R_zne (t := 110) rfl rfl rfl (fun hc => ?_) (fun hc => ?_)
    · replace h := mm_ip hc h
      refine mm_Runs.seq (l := [(106, .iconst 1, 1), (107, .goto 4, 3)]) (S2 := (111, [z0, z1, z2, some (.int v3), some (.int v4), z5, z6], [.int (1 : Int32)], M)) (by decide +kernel) (hO := mm_own_201) rfl ?_
      cases h
      exact mm_R_retb rfl rfl rfl hA
    · replace h := mm_iq hc h
      refine mm_Runs.seq (l := [(110, .iconst 0, 1)]) (S2 := (111, [z0, z1, z2, some (.int v3), some (.int v4), z5, z6], [.int (0 : Int32)], M)) (by decide +kernel) (hO := mm_own_201) rfl ?_
      cases h
      exact mm_R_retb rfl rfl rfl hA
set_option maxRecDepth 8000 in
set_option maxHeartbeats 4000000 in
theorem ms_201_j72 {L : Nat} {xs : Nat → Int32} {d : Nat} (hd : 1 ≤ d) {v1 : Int32} {v2 : Int32} {v3 : Int32} {v4 : Int32} {v5 : Int32} {M : mm_M} {q : (Int32 ⊕ Nat) × mm_M} {o : mm_E} (h : mf_201_j72 v1 v2 v3 v4 v5 M = some q) (hA : mm_A (mm_Kr mm_wi) q o) : mp_201_72 L xs d v1 v2 v3 v4 v5 M o := by
  unfold mf_201_j72 at h
  obtain ⟨d, rfl⟩ := mm_d1 (n := 0) hd
  intro z6
  show mm_Runs L xs (d + 1) 201 (72, [some (.ref 84), some (.int v1), some (.int v2), some (.int v3), some (.int v4), some (.int v5), z6], [], M) o
  refine mm_Runs.seq (l := [(72, .aload_n 0, 1), (73, .iload_n 1, 1), (74, .iload_n 2, 1)]) (S2 := (75, [some (.ref 84), some (.int v1), some (.int v2), some (.int v3), some (.int v4), some (.int v5), z6], [.int v2, .int v1, .ref 84], M)) (by decide +kernel) (hO := mm_own_201) rfl ?_
  refine mm_R_call (v := mm_wl) h hA (k2 := 200) (as := [.ref 84, .int v1, .int v2]) (r := []) rfl (fun _ => rfl) (fun q hq o ho => ms_200 (by omega) hq ho) (fun r1 M2 h => ?_)
  show mm_Runs L xs (d + 1) 201 (78, [some (.ref 84), some (.int v1), some (.int v2), some (.int v3), some (.int v4), some (.int v5), z6], [.long r1], M2) o
  refine mm_Runs.seq (l := [(78, .ldc2_w 188, 3)]) (S2 := (81, [some (.ref 84), some (.int v1), some (.int v2), some (.int v3), some (.int v4), some (.int v5), z6], [.long (1048576 : Int64), .long r1], M2)) (by decide +kernel) (hO := mm_own_201) rfl ?_
  refine mm_R_leq (t := 106) rfl rfl rfl rfl (fun hc => ?_) (fun hc => ?_)
  · replace h := mm_ip hc h
    refine mm_Runs.seq (l := [(106, .iconst 1, 1), (107, .goto 4, 3)]) (S2 := (111, [some (.ref 84), some (.int v1), some (.int v2), some (.int v3), some (.int v4), some (.int v5), z6], [.int (1 : Int32)], M2)) (by decide +kernel) (hO := mm_own_201) rfl ?_
    cases h
    exact mm_R_retb rfl rfl rfl hA
  · replace h := mm_iq hc h
    refine mm_Runs.seq (l := [(85, .iload 4, 2), (87, .iconst 1, 1)]) (S2 := (88, [some (.ref 84), some (.int v1), some (.int v2), some (.int v3), some (.int v4), some (.int v5), z6], [.int (1 : Int32), .int v4], M2)) (by decide +kernel) (hO := mm_own_201) rfl ?_
    refine mm_R_ine (t := 97) rfl rfl rfl (fun hc => ?_) (fun hc => ?_)
    · replace h := mm_ip hc h
      refine mm_Runs.seq (l := [(91, .iload 5, 2), (93, .iconst 1, 1)]) (S2 := (94, [some (.ref 84), some (.int v1), some (.int v2), some (.int v3), some (.int v4), some (.int v5), z6], [.int (1 : Int32), .int v5], M2)) (by decide +kernel) (hO := mm_own_201) rfl ?_
      refine mm_R_ieq (t := 106) rfl rfl rfl (fun hc => ?_) (fun hc => ?_)
      · replace h := mm_ip hc h
        refine mm_Runs.seq (l := [(106, .iconst 1, 1), (107, .goto 4, 3)]) (S2 := (111, [some (.ref 84), some (.int v1), some (.int v2), some (.int v3), some (.int v4), some (.int v5), z6], [.int (1 : Int32)], M2)) (by decide +kernel) (hO := mm_own_201) rfl ?_
        cases h
        exact mm_R_retb rfl rfl rfl hA
      · replace h := mm_iq hc h
        exact (ms_201_j97 hd h hA : mp_201_97 L xs (d + 1) v3 v4 M2 o) (some (.ref 84)) (some (.int v1)) (some (.int v2)) (some (.int v5)) z6
    · replace h := mm_iq hc h
      exact (ms_201_j97 hd h hA : mp_201_97 L xs (d + 1) v3 v4 M2 o) (some (.ref 84)) (some (.int v1)) (some (.int v2)) (some (.int v5)) z6
set_option maxRecDepth 8000 in
set_option maxHeartbeats 4000000 in
theorem ms_201 {L : Nat} {xs : Nat → Int32} {d : Nat} (hd : 1 ≤ d) {v1 : Int32} {v2 : Int32} {v3 : Int32} {M : mm_M} {q : (Int32 ⊕ Nat) × mm_M} {o : mm_E} (h : mf_201 v1 v2 v3 M = some q) (hA : mm_A (mm_Kr mm_wi) q o) : mm_Runs L xs d 201 (0, mm_ent (mm_ml 201) [.ref 84, .int v1, .int v2, .int v3], [], M) o := by
  unfold mf_201 at h
  obtain ⟨d, rfl⟩ := mm_d1 (n := 0) hd
  show mm_Runs L xs (d + 1) 201 (0, [some (.ref 84), some (.int v1), some (.int v2), some (.int v3), none, none, none], [], M) o
  refine mm_Runs.seq (l := [(0, .iconst 0, 1), (1, .istore 4, 2), (3, .iconst 0, 1), (4, .istore 5, 2), (6, .sipush 300, 3), (9, .iload_n 1, 1), (10, .imul, 1), (11, .istore 6, 2)]) (S2 := (13, [some (.ref 84), some (.int v1), some (.int v2), some (.int v3), some (.int (0 : Int32)), some (.int (0 : Int32)), some (.int ((300 : Int32) * v1))], [], M)) (by decide +kernel) (hO := mm_own_201) rfl ?_
  have hp : mp_201_13 L xs (d + 1) v1 v2 v3 (0 : Int32) (0 : Int32) ((300 : Int32) * v1) M o := by
    refine ms_201_L13 hd h hA (fun r2 M1 h => ?_)
    intro y3
    show mm_Runs L xs (d + 1) 201 (72, [some (.ref 84), some (.int v1), some (.int v2), some (.int v3), some (.int r2.1), some (.int r2.2), y3], [], M1) o
    exact (ms_201_j72 hd h hA : mp_201_72 L xs (d + 1) v1 v2 v3 r2.1 r2.2 M1 o) y3
  exact hp
-- 202: PlainPacksModel.decode(II)I (depth 3)
theorem mm_own_202 : mm_own 202 = 12 := rfl
def mp_202_12 (L : Nat) (xs : Nat → Int32) (d : Nat) (v2 : Int32) (v3 : Int32) (v4 : Int32) (v5 : Int32) (M : mm_M) (o : mm_E) : Prop := ∀ z1 z6 z7 : Option Value, mm_Runs L xs d 202 (12, [some (.ref 84), z1, some (.int v2), some (.int v3), some (.int v4), some (.int v5), z6, z7], [], M) o
def mp_202_91 (L : Nat) (xs : Nat → Int32) (d : Nat) (M : mm_M) (o : mm_E) : Prop := ∀ z1 z2 z3 z4 z5 z6 z7 : Option Value, mm_Runs L xs d 202 (91, [some (.ref 84), z1, z2, z3, z4, z5, z6, z7], [], M) o
def mp_202_153 (L : Nat) (xs : Nat → Int32) (d : Nat) (v3 : Int32) (v7 : Int32) (M : mm_M) (o : mm_E) : Prop := ∀ z0 z1 z2 z4 z5 z6 : Option Value, mm_Runs L xs d 202 (153, [z0, z1, z2, some (.int v3), z4, z5, z6, some (.int v7)], [], M) o
def mp_202_167 (L : Nat) (xs : Nat → Int32) (d : Nat) (M : mm_M) (o : mm_E) : Prop := ∀ z0 z1 z2 z3 z4 z5 z6 z7 : Option Value, mm_Runs L xs d 202 (167, [z0, z1, z2, z3, z4, z5, z6, z7], [], M) o
def mp_202_25 (L : Nat) (xs : Nat → Int32) (d : Nat) (v2 : Int32) (v3 : Int32) (v4 : Int32) (v5 : Int32) (v6 : Int32) (v7 : Int32) (M : mm_M) (o : mm_E) : Prop := ∀ z1 : Option Value, mm_Runs L xs d 202 (25, [some (.ref 84), z1, some (.int v2), some (.int v3), some (.int v4), some (.int v5), some (.int v6), some (.int v7)], [], M) o
def mp_202_86 (L : Nat) (xs : Nat → Int32) (d : Nat) (v2 : Int32) (v3 : Int32) (v4 : Int32) (v5 : Int32) (v6 : Int32) (M : mm_M) (o : mm_E) : Prop := ∀ z1 z7 : Option Value, mm_Runs L xs d 202 (86, [some (.ref 84), z1, some (.int v2), some (.int v3), some (.int v4), some (.int v5), some (.int v6), z7], [], M) o
set_option maxRecDepth 8000 in
set_option maxHeartbeats 4000000 in
theorem ms_202_b25 {L : Nat} {xs : Nat → Int32} {d : Nat} (hd : 3 ≤ d) {v2 : Int32} {v3 : Int32} {v4 : Int32} {v5 : Int32} {v6 : Int32} {v7 : Int32} {M : mm_M} {q : (((Int32 × Int32) ⊕ (Int32)) ⊕ Nat) × mm_M} {o : mm_E} (h : mf_202_b25 v2 v3 v4 v5 v6 v7 M = some q) (hA : mm_A (mm_K2 (fun s M o => mp_202_25 L xs (d) v2 v3 v4 v5 s.1 s.2 M o) (fun r M o => mp_202_86 L xs (d) v2 v3 v4 v5 r M o)) q o) : mp_202_25 L xs d v2 v3 v4 v5 v6 v7 M o := by
  unfold mf_202_b25 at h
  obtain ⟨d, rfl⟩ := mm_d1 (n := 2) hd
  intro z1
  show mm_Runs L xs (d + 1) 202 (25, [some (.ref 84), z1, some (.int v2), some (.int v3), some (.int v4), some (.int v5), some (.int v6), some (.int v7)], [], M) o
  refine mm_Runs.seq (l := [(25, .iload 7, 2), (27, .iload_n 3, 1), (28, .iload_n 2, 1), (29, .iadd, 1)]) (S2 := (30, [some (.ref 84), z1, some (.int v2), some (.int v3), some (.int v4), some (.int v5), some (.int v6), some (.int v7)], [.int (v3 + v2), .int v7], M)) (by decide +kernel) (hO := mm_own_202) rfl ?_
  refine mm_R_ige (t := 86) rfl rfl rfl (fun hc => ?_) (fun hc => ?_)
  · replace h := mm_ip hc h
    refine mm_Runs.seq (l := [(33, .iload 6, 2)]) (S2 := (35, [some (.ref 84), z1, some (.int v2), some (.int v3), some (.int v4), some (.int v5), some (.int v6), some (.int v7)], [.int v6], M)) (by decide +kernel) (hO := mm_own_202) rfl ?_
    refine mm_R_zne (t := 73) rfl rfl rfl (fun hc => ?_) (fun hc => ?_)
    · replace h := mm_ip hc h
      refine mm_Runs.seq (l := [(38, .aload_n 0, 1), (39, .getfield 16, 3), (42, .iload 7, 2)]) (S2 := (44, [some (.ref 84), z1, some (.int v2), some (.int v3), some (.int v4), some (.int v5), some (.int v6), some (.int v7)], [.int v7, .ref 87], M)) (by decide +kernel) (hO := mm_own_202) rfl ?_
      obtain ⟨hb, h⟩ := mm_gd h
      refine mm_R_iald rfl rfl hb ?_
      refine mm_Runs.seq (l := [(45, .iload 5, 2)]) (S2 := (47, [some (.ref 84), z1, some (.int v2), some (.int v3), some (.int v4), some (.int v5), some (.int v6), some (.int v7)], [.int v5, .int (M.1 87 v7.toNatClampNeg)], M)) (by decide +kernel) (hO := mm_own_202) rfl ?_
      refine mm_R_ile (t := 77) rfl rfl rfl (fun hc => ?_) (fun hc => ?_)
      · replace h := mm_ip hc h
        refine mm_Runs.seq (l := [(50, .aload_n 0, 1), (51, .getfield 19, 3), (54, .iload 7, 2)]) (S2 := (56, [some (.ref 84), z1, some (.int v2), some (.int v3), some (.int v4), some (.int v5), some (.int v6), some (.int v7)], [.int v7, .ref 88], M)) (by decide +kernel) (hO := mm_own_202) rfl ?_
        obtain ⟨hb, h⟩ := mm_gd h
        refine mm_R_iald rfl rfl hb ?_
        refine mm_Runs.seq (l := [(57, .aload_n 0, 1), (58, .getfield 16, 3), (61, .iload 7, 2)]) (S2 := (63, [some (.ref 84), z1, some (.int v2), some (.int v3), some (.int v4), some (.int v5), some (.int v6), some (.int v7)], [.int v7, .ref 87, .int (M.1 88 v7.toNatClampNeg)], M)) (by decide +kernel) (hO := mm_own_202) rfl ?_
        obtain ⟨hb, h⟩ := mm_gd h
        refine mm_R_iald rfl rfl hb ?_
        refine mm_Runs.seq (l := [(64, .iload 5, 2), (66, .isub, 1), (67, .ishr, 1), (68, .iload 4, 2)]) (S2 := (70, [some (.ref 84), z1, some (.int v2), some (.int v3), some (.int v4), some (.int v5), some (.int v6), some (.int v7)], [.int v4, .int (mm_shr (M.1 88 v7.toNatClampNeg) ((M.1 87 v7.toNatClampNeg) - v5))], M)) (by decide +kernel) (hO := mm_own_202) rfl ?_
        refine mm_R_ine (t := 77) rfl rfl rfl (fun hc => ?_) (fun hc => ?_)
        · replace h := mm_ip hc h
          refine mm_Runs.seq (l := [(73, .iconst 1, 1), (74, .goto 4, 3), (78, .istore 6, 2), (80, .iinc 7 1, 3), (83, .goto (-58), 3)]) (S2 := (25, [some (.ref 84), z1, some (.int v2), some (.int v3), some (.int v4), some (.int v5), some (.int (1 : Int32)), some (.int (v7 + (1 : Int32)))], [], M)) (by decide +kernel) (hO := mm_own_202) rfl ?_
          cases h
          exact (show mp_202_25 L xs (d + 1) v2 v3 v4 v5 (1 : Int32) (v7 + (1 : Int32)) M o from hA) z1
        · replace h := mm_iq hc h
          refine mm_Runs.seq (l := [(77, .iconst 0, 1), (78, .istore 6, 2), (80, .iinc 7 1, 3), (83, .goto (-58), 3)]) (S2 := (25, [some (.ref 84), z1, some (.int v2), some (.int v3), some (.int v4), some (.int v5), some (.int (0 : Int32)), some (.int (v7 + (1 : Int32)))], [], M)) (by decide +kernel) (hO := mm_own_202) rfl ?_
          cases h
          exact (show mp_202_25 L xs (d + 1) v2 v3 v4 v5 (0 : Int32) (v7 + (1 : Int32)) M o from hA) z1
      · replace h := mm_iq hc h
        refine mm_Runs.seq (l := [(77, .iconst 0, 1), (78, .istore 6, 2), (80, .iinc 7 1, 3), (83, .goto (-58), 3)]) (S2 := (25, [some (.ref 84), z1, some (.int v2), some (.int v3), some (.int v4), some (.int v5), some (.int (0 : Int32)), some (.int (v7 + (1 : Int32)))], [], M)) (by decide +kernel) (hO := mm_own_202) rfl ?_
        cases h
        exact (show mp_202_25 L xs (d + 1) v2 v3 v4 v5 (0 : Int32) (v7 + (1 : Int32)) M o from hA) z1
    · replace h := mm_iq hc h
      refine mm_Runs.seq (l := [(73, .iconst 1, 1), (74, .goto 4, 3), (78, .istore 6, 2), (80, .iinc 7 1, 3), (83, .goto (-58), 3)]) (S2 := (25, [some (.ref 84), z1, some (.int v2), some (.int v3), some (.int v4), some (.int v5), some (.int (1 : Int32)), some (.int (v7 + (1 : Int32)))], [], M)) (by decide +kernel) (hO := mm_own_202) rfl ?_
      cases h
      exact (show mp_202_25 L xs (d + 1) v2 v3 v4 v5 (1 : Int32) (v7 + (1 : Int32)) M o from hA) z1
  · replace h := mm_iq hc h
    cases h
    exact (show mp_202_86 L xs (d + 1) v2 v3 v4 v5 v6 M o from hA) z1 (some (.int v7))
theorem ms_202_L25 {L : Nat} {xs : Nat → Int32} {d : Nat} (hd : 3 ≤ d) {v2 : Int32} {v3 : Int32} {v4 : Int32} {v5 : Int32} {v6 : Int32} {v7 : Int32} {β : Type} {K : β → mm_M → mm_E → Prop} {F : (Int32) → mm_M → mm_O β} {M : mm_M} {q : (β ⊕ Nat) × mm_M} {o : mm_E} (h : mm_B (mf_202_L25 v2 v3 v4 v5 (v6, v7) M) F = some q) (hA : mm_A K q o) (hx : ∀ (r : (Int32)) (M2 : mm_M), F r M2 = some q → (fun r M o => mp_202_86 L xs (d) v2 v3 v4 v5 r M o) r M2 o) : mp_202_25 L xs d v2 v3 v4 v5 v6 v7 M o := by
  unfold mf_202_L25 at h
  exact mm_R_loop (step := (fun s M => mf_202_b25 v2 v3 v4 v5 s.1 s.2 M)) (s := (v6, v7)) (M := M) (P := (fun s M o => mp_202_25 L xs (d) v2 v3 v4 v5 s.1 s.2 M o)) (X := (fun r M o => mp_202_86 L xs (d) v2 v3 v4 v5 r M o)) h hA (fun s M q hq hA => ms_202_b25 (v2 := v2) (v3 := v3) (v4 := v4) (v5 := v5) (v6 := s.1) (v7 := s.2) (M := M) (q := q) hd hq hA) hx
def mp_202_114 (L : Nat) (xs : Nat → Int32) (d : Nat) (v2 : Int32) (v3 : Int32) (v4 : Int32) (v5 : Int32) (v7 : Int32) (M : mm_M) (o : mm_E) : Prop := ∀ z1 z6 : Option Value, mm_Runs L xs d 202 (114, [some (.ref 84), z1, some (.int v2), some (.int v3), some (.int v4), some (.int v5), z6, some (.int v7)], [], M) o
def mp_202_164 (L : Nat) (xs : Nat → Int32) (d : Nat) (v2 : Int32) (v3 : Int32) (v4 : Int32) (v5 : Int32) (M : mm_M) (o : mm_E) : Prop := ∀ z1 z6 z7 : Option Value, mm_Runs L xs d 202 (164, [some (.ref 84), z1, some (.int v2), some (.int v3), some (.int v4), some (.int v5), z6, z7], [], M) o
set_option maxRecDepth 8000 in
set_option maxHeartbeats 4000000 in
theorem ms_202_b114 {L : Nat} {xs : Nat → Int32} {d : Nat} (hd : 3 ≤ d) {v2 : Int32} {v3 : Int32} {v4 : Int32} {v5 : Int32} {v7 : Int32} {M : mm_M} {q : (((Int32) ⊕ ((Int32) ⊕ (Unit))) ⊕ Nat) × mm_M} {o : mm_E} (h : mf_202_b114 v2 v3 v4 v5 v7 M = some q) (hA : mm_A (mm_K2 (fun s M o => mp_202_114 L xs (d) v2 v3 v4 v5 s M o) (fun r M o => mm_sm (fun r => mp_202_153 L xs (d) v3 r M o) (fun r => mp_202_164 L xs (d) v2 v3 v4 v5 M o) r)) q o) : mp_202_114 L xs d v2 v3 v4 v5 v7 M o := by
  unfold mf_202_b114 at h
  obtain ⟨d, rfl⟩ := mm_d1 (n := 2) hd
  intro z1 z6
  show mm_Runs L xs (d + 1) 202 (114, [some (.ref 84), z1, some (.int v2), some (.int v3), some (.int v4), some (.int v5), z6, some (.int v7)], [], M) o
  refine mm_Runs.seq (l := [(114, .iload 7, 2), (116, .iload_n 3, 1), (117, .iload_n 2, 1), (118, .iadd, 1)]) (S2 := (119, [some (.ref 84), z1, some (.int v2), some (.int v3), some (.int v4), some (.int v5), z6, some (.int v7)], [.int (v3 + v2), .int v7], M)) (by decide +kernel) (hO := mm_own_202) rfl ?_
  refine mm_R_ige (t := 164) rfl rfl rfl (fun hc => ?_) (fun hc => ?_)
  · replace h := mm_ip hc h
    refine mm_Runs.seq (l := [(122, .aload_n 0, 1), (123, .getfield 154, 3)]) (S2 := (126, [some (.ref 84), z1, some (.int v2), some (.int v3), some (.int v4), some (.int v5), z6, some (.int v7)], [.int (M.1 84 7)], M)) (by decide +kernel) (hO := mm_own_202) rfl ?_
    refine mm_R_zne (t := 164) rfl rfl rfl (fun hc => ?_) (fun hc => ?_)
    · replace h := mm_ip hc h
      refine mm_Runs.seq (l := [(129, .aload_n 0, 1), (130, .getfield 16, 3), (133, .iload 7, 2)]) (S2 := (135, [some (.ref 84), z1, some (.int v2), some (.int v3), some (.int v4), some (.int v5), z6, some (.int v7)], [.int v7, .ref 87], M)) (by decide +kernel) (hO := mm_own_202) rfl ?_
      obtain ⟨hb, h⟩ := mm_gd h
      refine mm_R_iald rfl rfl hb ?_
      refine mm_Runs.seq (l := [(136, .iload 5, 2)]) (S2 := (138, [some (.ref 84), z1, some (.int v2), some (.int v3), some (.int v4), some (.int v5), z6, some (.int v7)], [.int v5, .int (M.1 87 v7.toNatClampNeg)], M)) (by decide +kernel) (hO := mm_own_202) rfl ?_
      refine mm_R_ine (t := 158) rfl rfl rfl (fun hc => ?_) (fun hc => ?_)
      · replace h := mm_ip hc h
        refine mm_Runs.seq (l := [(141, .aload_n 0, 1), (142, .getfield 19, 3), (145, .iload 7, 2)]) (S2 := (147, [some (.ref 84), z1, some (.int v2), some (.int v3), some (.int v4), some (.int v5), z6, some (.int v7)], [.int v7, .ref 88], M)) (by decide +kernel) (hO := mm_own_202) rfl ?_
        obtain ⟨hb, h⟩ := mm_gd h
        refine mm_R_iald rfl rfl hb ?_
        refine mm_Runs.seq (l := [(148, .iload 4, 2)]) (S2 := (150, [some (.ref 84), z1, some (.int v2), some (.int v3), some (.int v4), some (.int v5), z6, some (.int v7)], [.int v4, .int (M.1 88 v7.toNatClampNeg)], M)) (by decide +kernel) (hO := mm_own_202) rfl ?_
        refine mm_R_ine (t := 158) rfl rfl rfl (fun hc => ?_) (fun hc => ?_)
        · replace h := mm_ip hc h
          cases h
          exact (show mp_202_153 L xs (d + 1) v3 v7 M o from hA) (some (.ref 84)) z1 (some (.int v2)) (some (.int v4)) (some (.int v5)) z6
        · replace h := mm_iq hc h
          refine mm_Runs.seq (l := [(158, .iinc 7 1, 3), (161, .goto (-47), 3)]) (S2 := (114, [some (.ref 84), z1, some (.int v2), some (.int v3), some (.int v4), some (.int v5), (mm_no2 z6), some (.int (v7 + (1 : Int32)))], [], M)) (by decide +kernel) (hO := mm_own_202) rfl ?_
          cases h
          exact (show mp_202_114 L xs (d + 1) v2 v3 v4 v5 (v7 + (1 : Int32)) M o from hA) z1 ((mm_no2 z6))
      · replace h := mm_iq hc h
        refine mm_Runs.seq (l := [(158, .iinc 7 1, 3), (161, .goto (-47), 3)]) (S2 := (114, [some (.ref 84), z1, some (.int v2), some (.int v3), some (.int v4), some (.int v5), (mm_no2 z6), some (.int (v7 + (1 : Int32)))], [], M)) (by decide +kernel) (hO := mm_own_202) rfl ?_
        cases h
        exact (show mp_202_114 L xs (d + 1) v2 v3 v4 v5 (v7 + (1 : Int32)) M o from hA) z1 ((mm_no2 z6))
    · replace h := mm_iq hc h
      cases h
      exact (show mp_202_164 L xs (d + 1) v2 v3 v4 v5 M o from hA) z1 z6 (some (.int v7))
  · replace h := mm_iq hc h
    cases h
    exact (show mp_202_164 L xs (d + 1) v2 v3 v4 v5 M o from hA) z1 z6 (some (.int v7))
theorem ms_202_L114 {L : Nat} {xs : Nat → Int32} {d : Nat} (hd : 3 ≤ d) {v2 : Int32} {v3 : Int32} {v4 : Int32} {v5 : Int32} {v7 : Int32} {β : Type} {K : β → mm_M → mm_E → Prop} {F : ((Int32) ⊕ (Unit)) → mm_M → mm_O β} {M : mm_M} {q : (β ⊕ Nat) × mm_M} {o : mm_E} (h : mm_B (mf_202_L114 v2 v3 v4 v5 v7 M) F = some q) (hA : mm_A K q o) (hx : ∀ (r : ((Int32) ⊕ (Unit))) (M2 : mm_M), F r M2 = some q → (fun r M o => mm_sm (fun r => mp_202_153 L xs (d) v3 r M o) (fun r => mp_202_164 L xs (d) v2 v3 v4 v5 M o) r) r M2 o) : mp_202_114 L xs d v2 v3 v4 v5 v7 M o := by
  unfold mf_202_L114 at h
  exact mm_R_loop (step := (fun s M => mf_202_b114 v2 v3 v4 v5 s M)) (s := v7) (M := M) (P := (fun s M o => mp_202_114 L xs (d) v2 v3 v4 v5 s M o)) (X := (fun r M o => mm_sm (fun r => mp_202_153 L xs (d) v3 r M o) (fun r => mp_202_164 L xs (d) v2 v3 v4 v5 M o) r)) h hA (fun s M q hq hA => ms_202_b114 (v2 := v2) (v3 := v3) (v4 := v4) (v5 := v5) (v7 := s) (M := M) (q := q) hd hq hA) hx
set_option maxRecDepth 8000 in
set_option maxHeartbeats 4000000 in
theorem ms_202_j86 {L : Nat} {xs : Nat → Int32} {d : Nat} (hd : 3 ≤ d) {v2 : Int32} {v3 : Int32} {v4 : Int32} {v5 : Int32} {v6 : Int32} {M : mm_M} {q : (((Int32 × Int32) ⊕ ((Unit) ⊕ ((Int32) ⊕ (Unit)))) ⊕ Nat) × mm_M} {o : mm_E} (h : mf_202_j86 v2 v3 v4 v5 v6 M = some q) (hA : mm_A (mm_K2 (fun s M o => mp_202_12 L xs (d) v2 v3 s.1 s.2 M o) (fun r M o => mm_sm (fun r => mp_202_91 L xs (d) M o) (fun r => mm_sm (fun r => mp_202_153 L xs (d) v3 r M o) (fun r => mp_202_167 L xs (d) M o) r) r)) q o) : mp_202_86 L xs d v2 v3 v4 v5 v6 M o := by
  unfold mf_202_j86 at h
  obtain ⟨d, rfl⟩ := mm_d1 (n := 2) hd
  intro z1 z7
  show mm_Runs L xs (d + 1) 202 (86, [some (.ref 84), z1, some (.int v2), some (.int v3), some (.int v4), some (.int v5), some (.int v6), z7], [], M) o
  refine mm_Runs.seq (l := [(86, .iload 6, 2)]) (S2 := (88, [some (.ref 84), z1, some (.int v2), some (.int v3), some (.int v4), some (.int v5), some (.int v6), z7], [.int v6], M)) (by decide +kernel) (hO := mm_own_202) rfl ?_
  refine mm_R_zne (t := 97) rfl rfl rfl (fun hc => ?_) (fun hc => ?_)
  · replace h := mm_ip hc h
    cases h
    exact (show mp_202_91 L xs (d + 1) M o from hA) z1 (some (.int v2)) (some (.int v3)) (some (.int v4)) (some (.int v5)) (some (.int v6)) z7
  · replace h := mm_iq hc h
    refine mm_Runs.seq (l := [(97, .iload 4, 2), (99, .iconst 1, 1), (100, .ishl, 1), (101, .aload_n 0, 1)]) (S2 := (102, [some (.ref 84), z1, some (.int v2), some (.int v3), some (.int v4), some (.int v5), some (.int v6), z7], [.ref 84, .int (mm_shl v4 (1 : Int32))], M)) (by decide +kernel) (hO := mm_own_202) rfl ?_
    refine mm_R_call (v := mm_wi) h hA (k2 := 197) (as := [.ref 84]) (r := [.int (mm_shl v4 (1 : Int32))]) rfl (fun _ => rfl) (fun q hq o ho => ms_197 (by omega) hq ho) (fun r1 M2 h => ?_)
    show mm_Runs L xs (d + 1) 202 (105, [some (.ref 84), z1, some (.int v2), some (.int v3), some (.int v4), some (.int v5), some (.int v6), z7], [.int r1, .int (mm_shl v4 (1 : Int32))], M2) o
    refine mm_Runs.seq (l := [(105, .ior, 1), (106, .istore 4, 2), (108, .iinc 5 1, 3), (111, .iload_n 3, 1), (112, .istore 7, 2)]) (S2 := (114, [some (.ref 84), z1, some (.int v2), some (.int v3), some (.int ((mm_shl v4 (1 : Int32)) ||| r1)), some (.int (v5 + (1 : Int32))), some (.int v6), some (.int v3)], [], M2)) (by decide +kernel) (hO := mm_own_202) rfl ?_
    have hp : mp_202_114 L xs (d + 1) v2 v3 ((mm_shl v4 (1 : Int32)) ||| r1) (v5 + (1 : Int32)) v3 M2 o := by
      refine ms_202_L114 hd h hA (fun r4 M3 h => ?_)
      rcases r4 with r4 | r4
      · dsimp only [mm_sm] at h
        intro y5 y6 y7 y8 y9 y10
        show mm_Runs L xs (d + 1) 202 (153, [y5, y6, y7, some (.int v3), y8, y9, y10, some (.int r4)], [], M3) o
        cases h
        exact (show mp_202_153 L xs (d + 1) v3 r4 M3 o from hA) y5 y6 y7 y8 y9 y10
      · dsimp only [mm_sm] at h
        intro y11 y12 y13
        show mm_Runs L xs (d + 1) 202 (164, [some (.ref 84), y11, some (.int v2), some (.int v3), some (.int ((mm_shl v4 (1 : Int32)) ||| r1)), some (.int (v5 + (1 : Int32))), y12, y13], [], M3) o
        refine mm_Runs.seq (l := [(164, .goto (-152), 3)]) (S2 := (12, [some (.ref 84), y11, some (.int v2), some (.int v3), some (.int ((mm_shl v4 (1 : Int32)) ||| r1)), some (.int (v5 + (1 : Int32))), y12, y13], [], M3)) (by decide +kernel) (hO := mm_own_202) rfl ?_
        cases h
        exact (show mp_202_12 L xs (d + 1) v2 v3 ((mm_shl v4 (1 : Int32)) ||| r1) (v5 + (1 : Int32)) M3 o from hA) y11 y12 y13
    exact hp z1 (some (.int v6))
set_option maxRecDepth 8000 in
set_option maxHeartbeats 4000000 in
theorem ms_202_b12 {L : Nat} {xs : Nat → Int32} {d : Nat} (hd : 3 ≤ d) {v2 : Int32} {v3 : Int32} {v4 : Int32} {v5 : Int32} {M : mm_M} {q : (((Int32 × Int32) ⊕ ((Unit) ⊕ ((Int32) ⊕ (Unit)))) ⊕ Nat) × mm_M} {o : mm_E} (h : mf_202_b12 v2 v3 v4 v5 M = some q) (hA : mm_A (mm_K2 (fun s M o => mp_202_12 L xs (d) v2 v3 s.1 s.2 M o) (fun r M o => mm_sm (fun r => mp_202_91 L xs (d) M o) (fun r => mm_sm (fun r => mp_202_153 L xs (d) v3 r M o) (fun r => mp_202_167 L xs (d) M o) r) r)) q o) : mp_202_12 L xs d v2 v3 v4 v5 M o := by
  unfold mf_202_b12 at h
  obtain ⟨d, rfl⟩ := mm_d1 (n := 2) hd
  intro z1 z6 z7
  show mm_Runs L xs (d + 1) 202 (12, [some (.ref 84), z1, some (.int v2), some (.int v3), some (.int v4), some (.int v5), z6, z7], [], M) o
  refine mm_Runs.seq (l := [(12, .aload_n 0, 1), (13, .getfield 154, 3)]) (S2 := (16, [some (.ref 84), z1, some (.int v2), some (.int v3), some (.int v4), some (.int v5), z6, z7], [.int (M.1 84 7)], M)) (by decide +kernel) (hO := mm_own_202) rfl ?_
  refine mm_R_zne (t := 167) rfl rfl rfl (fun hc => ?_) (fun hc => ?_)
  · replace h := mm_ip hc h
    refine mm_Runs.seq (l := [(19, .iconst 0, 1), (20, .istore 6, 2), (22, .iload_n 3, 1), (23, .istore 7, 2)]) (S2 := (25, [some (.ref 84), z1, some (.int v2), some (.int v3), some (.int v4), some (.int v5), some (.int (0 : Int32)), some (.int v3)], [], M)) (by decide +kernel) (hO := mm_own_202) rfl ?_
    have hp : mp_202_25 L xs (d + 1) v2 v3 v4 v5 (0 : Int32) v3 M o := by
      refine ms_202_L25 hd h hA (fun r2 M1 h => ?_)
      intro y3 y4
      show mm_Runs L xs (d + 1) 202 (86, [some (.ref 84), y3, some (.int v2), some (.int v3), some (.int v4), some (.int v5), some (.int r2), y4], [], M1) o
      exact (ms_202_j86 hd h hA : mp_202_86 L xs (d + 1) v2 v3 v4 v5 r2 M1 o) y3 y4
    exact hp z1
  · replace h := mm_iq hc h
    cases h
    exact (show mp_202_167 L xs (d + 1) M o from hA) (some (.ref 84)) z1 (some (.int v2)) (some (.int v3)) (some (.int v4)) (some (.int v5)) z6 z7
theorem ms_202_L12 {L : Nat} {xs : Nat → Int32} {d : Nat} (hd : 3 ≤ d) {v2 : Int32} {v3 : Int32} {v4 : Int32} {v5 : Int32} {β : Type} {K : β → mm_M → mm_E → Prop} {F : ((Unit) ⊕ ((Int32) ⊕ (Unit))) → mm_M → mm_O β} {M : mm_M} {q : (β ⊕ Nat) × mm_M} {o : mm_E} (h : mm_B (mf_202_L12 v2 v3 (v4, v5) M) F = some q) (hA : mm_A K q o) (hx : ∀ (r : ((Unit) ⊕ ((Int32) ⊕ (Unit)))) (M2 : mm_M), F r M2 = some q → (fun r M o => mm_sm (fun r => mp_202_91 L xs (d) M o) (fun r => mm_sm (fun r => mp_202_153 L xs (d) v3 r M o) (fun r => mp_202_167 L xs (d) M o) r) r) r M2 o) : mp_202_12 L xs d v2 v3 v4 v5 M o := by
  unfold mf_202_L12 at h
  exact mm_R_loop (step := (fun s M => mf_202_b12 v2 v3 s.1 s.2 M)) (s := (v4, v5)) (M := M) (P := (fun s M o => mp_202_12 L xs (d) v2 v3 s.1 s.2 M o)) (X := (fun r M o => mm_sm (fun r => mp_202_91 L xs (d) M o) (fun r => mm_sm (fun r => mp_202_153 L xs (d) v3 r M o) (fun r => mp_202_167 L xs (d) M o) r) r)) h hA (fun s M q hq hA => ms_202_b12 (v2 := v2) (v3 := v3) (v4 := s.1) (v5 := s.2) (M := M) (q := q) hd hq hA) hx
set_option maxRecDepth 8000 in
set_option maxHeartbeats 4000000 in
theorem ms_202_j91 {L : Nat} {xs : Nat → Int32} {d : Nat} (hd : 3 ≤ d) {M : mm_M} {q : (Int32 ⊕ Nat) × mm_M} {o : mm_E} (h : mf_202_j91 M = some q) (hA : mm_A (mm_Kr mm_wi) q o) : mp_202_91 L xs d M o := by
  unfold mf_202_j91 at h
  obtain ⟨d, rfl⟩ := mm_d1 (n := 2) hd
  intro z1 z2 z3 z4 z5 z6 z7
  show mm_Runs L xs (d + 1) 202 (91, [some (.ref 84), z1, z2, z3, z4, z5, z6, z7], [], M) o
  refine mm_Runs.seq (l := [(91, .aload_n 0, 1)]) (S2 := (92, [some (.ref 84), z1, z2, z3, z4, z5, z6, z7], [.ref 84], M)) (by decide +kernel) (hO := mm_own_202) rfl ?_
  refine mm_R_call (v := mm_wv) h hA (k2 := 190) (as := [.ref 84]) (r := []) rfl (fun _ => rfl) (fun q hq o ho => ms_190 (by omega) hq ho) (fun _ M1 h => ?_)
  show mm_Runs L xs (d + 1) 202 (95, [some (.ref 84), z1, z2, z3, z4, z5, z6, z7], [], M1) o
  refine mm_Runs.seq (l := [(95, .iconst 0, 1)]) (S2 := (96, [some (.ref 84), z1, z2, z3, z4, z5, z6, z7], [.int (0 : Int32)], M1)) (by decide +kernel) (hO := mm_own_202) rfl ?_
  cases h
  exact mm_R_reti rfl rfl hA
set_option maxRecDepth 8000 in
set_option maxHeartbeats 4000000 in
theorem ms_202 {L : Nat} {xs : Nat → Int32} {d : Nat} (hd : 3 ≤ d) {v1 : Int32} {v2 : Int32} {M : mm_M} {q : (Int32 ⊕ Nat) × mm_M} {o : mm_E} (h : mf_202 v1 v2 M = some q) (hA : mm_A (mm_Kr mm_wi) q o) : mm_Runs L xs d 202 (0, mm_ent (mm_ml 202) [.ref 84, .int v1, .int v2], [], M) o := by
  unfold mf_202 at h
  obtain ⟨d, rfl⟩ := mm_d1 (n := 2) hd
  show mm_Runs L xs (d + 1) 202 (0, [some (.ref 84), some (.int v1), some (.int v2), none, none, none, none, none], [], M) o
  refine mm_Runs.seq (l := [(0, .sipush 300, 3), (3, .iload_n 1, 1), (4, .imul, 1), (5, .istore_n 3, 1), (6, .iconst 0, 1), (7, .istore 4, 2), (9, .iconst 0, 1), (10, .istore 5, 2)]) (S2 := (12, [some (.ref 84), some (.int v1), some (.int v2), some (.int ((300 : Int32) * v1)), some (.int (0 : Int32)), some (.int (0 : Int32)), none, none], [], M)) (by decide +kernel) (hO := mm_own_202) rfl ?_
  have hp : mp_202_12 L xs (d + 1) v2 ((300 : Int32) * v1) (0 : Int32) (0 : Int32) M o := by
    refine ms_202_L12 hd h hA (fun r2 M1 h => ?_)
    rcases r2 with r2 | r2
    · dsimp only [mm_sm] at h
      intro y3 y4 y5 y6 y7 y8 y9
      show mm_Runs L xs (d + 1) 202 (91, [some (.ref 84), y3, y4, y5, y6, y7, y8, y9], [], M1) o
      exact (ms_202_j91 hd h hA : mp_202_91 L xs (d + 1) M1 o) y3 y4 y5 y6 y7 y8 y9
    · dsimp only [mm_sm] at h
      rcases r2 with r2 | r2
      · dsimp only [mm_sm] at h
        intro y10 y11 y12 y13 y14 y15
        show mm_Runs L xs (d + 1) 202 (153, [y10, y11, y12, some (.int ((300 : Int32) * v1)), y13, y14, y15, some (.int r2)], [], M1) o
        refine mm_Runs.seq (l := [(153, .iload 7, 2), (155, .iload_n 3, 1), (156, .isub, 1)]) (S2 := (157, [y10, y11, y12, some (.int ((300 : Int32) * v1)), y13, y14, y15, some (.int r2)], [.int (r2 - ((300 : Int32) * v1))], M1)) (by decide +kernel) (hO := mm_own_202) rfl ?_
        cases h
        exact mm_R_reti rfl rfl hA
      · dsimp only [mm_sm] at h
        intro y16 y17 y18 y19 y20 y21 y22 y23
        show mm_Runs L xs (d + 1) 202 (167, [y16, y17, y18, y19, y20, y21, y22, y23], [], M1) o
        refine mm_Runs.seq (l := [(167, .iconst 0, 1)]) (S2 := (168, [y16, y17, y18, y19, y20, y21, y22, y23], [.int (0 : Int32)], M1)) (by decide +kernel) (hO := mm_own_202) rfl ?_
        cases h
        exact mm_R_reti rfl rfl hA
  exact hp (some (.int v1)) none none
-- 207: PlainPacksModel.rowOf(I)V (depth 4)
theorem mm_own_207 : mm_own 207 = 12 := rfl
def mp_207_2 (L : Nat) (xs : Nat → Int32) (d : Nat) (v1 : Int32) (v2 : Int32) (M : mm_M) (o : mm_E) : Prop := ∀ z3 z4 z5 z6 : Option Value, mm_Runs L xs d 207 (2, [some (.ref 84), some (.int v1), some (.int v2), z3, z4, z5, z6], [], M) o
def mp_207_184 (L : Nat) (xs : Nat → Int32) (d : Nat) (M : mm_M) (o : mm_E) : Prop := ∀ z0 z1 z2 z3 z4 z5 z6 : Option Value, mm_Runs L xs d 207 (184, [z0, z1, z2, z3, z4, z5, z6], [], M) o
def mp_207_49 (L : Nat) (xs : Nat → Int32) (d : Nat) (v1 : Int32) (v2 : Int32) (v3 : Int32) (v4 : Int32) (v5 : Int32) (M : mm_M) (o : mm_E) : Prop := ∀ z6 : Option Value, mm_Runs L xs d 207 (49, [some (.ref 84), some (.int v1), some (.int v2), some (.int v3), some (.int v4), some (.int v5), z6], [], M) o
def mp_207_80 (L : Nat) (xs : Nat → Int32) (d : Nat) (v1 : Int32) (v2 : Int32) (v3 : Int32) (s0 : Int32) (M : mm_M) (o : mm_E) : Prop := ∀ z4 z5 z6 : Option Value, mm_Runs L xs d 207 (80, [some (.ref 84), some (.int v1), some (.int v2), some (.int v3), z4, z5, z6], [.int s0], M) o
def mp_207_126 (L : Nat) (xs : Nat → Int32) (d : Nat) (v1 : Int32) (v2 : Int32) (v5 : Int32) (s0 : Int32) (M : mm_M) (o : mm_E) : Prop := ∀ z3 z4 z6 : Option Value, mm_Runs L xs d 207 (126, [some (.ref 84), some (.int v1), some (.int v2), z3, z4, some (.int v5), z6], [.int s0], M) o
def mp_207_128 (L : Nat) (xs : Nat → Int32) (d : Nat) (v1 : Int32) (v2 : Int32) (v4 : Int32) (v5 : Int32) (M : mm_M) (o : mm_E) : Prop := ∀ z3 z6 : Option Value, mm_Runs L xs d 207 (128, [some (.ref 84), some (.int v1), some (.int v2), z3, some (.int v4), some (.int v5), z6], [], M) o
def mp_207_150 (L : Nat) (xs : Nat → Int32) (d : Nat) (v1 : Int32) (v2 : Int32) (v4 : Int32) (v5 : Int32) (v6 : Int32) (M : mm_M) (o : mm_E) : Prop := ∀ z3 : Option Value, mm_Runs L xs d 207 (150, [some (.ref 84), some (.int v1), some (.int v2), z3, some (.int v4), some (.int v5), some (.int v6)], [], M) o
def mp_207_181 (L : Nat) (xs : Nat → Int32) (d : Nat) (v1 : Int32) (v2 : Int32) (M : mm_M) (o : mm_E) : Prop := ∀ z3 z4 z5 z6 : Option Value, mm_Runs L xs d 207 (181, [some (.ref 84), some (.int v1), some (.int v2), z3, z4, z5, z6], [], M) o
set_option maxRecDepth 8000 in
set_option maxHeartbeats 4000000 in
theorem ms_207_b150 {L : Nat} {xs : Nat → Int32} {d : Nat} (hd : 4 ≤ d) {v1 : Int32} {v2 : Int32} {v4 : Int32} {v5 : Int32} {v6 : Int32} {M : mm_M} {q : (((Int32 × Int32) ⊕ (Int32)) ⊕ Nat) × mm_M} {o : mm_E} (h : mf_207_b150 v1 v2 v4 v5 v6 M = some q) (hA : mm_A (mm_K2 (fun s M o => mp_207_150 L xs (d) v1 s.1 v4 v5 s.2 M o) (fun r M o => mp_207_181 L xs (d) v1 r M o)) q o) : mp_207_150 L xs d v1 v2 v4 v5 v6 M o := by
  unfold mf_207_b150 at h
  obtain ⟨d, rfl⟩ := mm_d1 (n := 3) hd
  intro z3
  show mm_Runs L xs (d + 1) 207 (150, [some (.ref 84), some (.int v1), some (.int v2), z3, some (.int v4), some (.int v5), some (.int v6)], [], M) o
  refine mm_Runs.seq (l := [(150, .iload 6, 2), (152, .iload 4, 2)]) (S2 := (154, [some (.ref 84), some (.int v1), some (.int v2), z3, some (.int v4), some (.int v5), some (.int v6)], [.int v4, .int v6], M)) (by decide +kernel) (hO := mm_own_207) rfl ?_
  refine mm_R_ige (t := 181) rfl rfl rfl (fun hc => ?_) (fun hc => ?_)
  · replace h := mm_ip hc h
    refine mm_Runs.seq (l := [(157, .aload_n 0, 1), (158, .getfield 154, 3)]) (S2 := (161, [some (.ref 84), some (.int v1), some (.int v2), z3, some (.int v4), some (.int v5), some (.int v6)], [.int (M.1 84 7)], M)) (by decide +kernel) (hO := mm_own_207) rfl ?_
    refine mm_R_zne (t := 181) rfl rfl rfl (fun hc => ?_) (fun hc => ?_)
    · replace h := mm_ip hc h
      refine mm_Runs.seq (l := [(164, .aload_n 0, 1), (165, .getfield 25, 3), (168, .iload_n 2, 1), (169, .iload 5, 2)]) (S2 := (171, [some (.ref 84), some (.int v1), some (.int v2), z3, some (.int v4), some (.int v5), some (.int v6)], [.int v5, .int v2, .ref 90], M)) (by decide +kernel) (hO := mm_own_207) rfl ?_
      obtain ⟨hb, h⟩ := mm_gd h
      refine mm_R_iast rfl rfl hb ?_
      refine mm_Runs.seq (l := [(172, .iinc 2 1, 3), (175, .iinc 6 1, 3), (178, .goto (-28), 3)]) (S2 := (150, [some (.ref 84), some (.int v1), some (.int (v2 + (1 : Int32))), z3, some (.int v4), some (.int v5), some (.int (v6 + (1 : Int32)))], [], (mm_pi M 90 v2.toNatClampNeg v5))) (by decide +kernel) (hO := mm_own_207) rfl ?_
      cases h
      exact (show mp_207_150 L xs (d + 1) v1 (v2 + (1 : Int32)) v4 v5 (v6 + (1 : Int32)) (mm_pi M 90 v2.toNatClampNeg v5) o from hA) z3
    · replace h := mm_iq hc h
      cases h
      exact (show mp_207_181 L xs (d + 1) v1 v2 M o from hA) z3 (some (.int v4)) (some (.int v5)) (some (.int v6))
  · replace h := mm_iq hc h
    cases h
    exact (show mp_207_181 L xs (d + 1) v1 v2 M o from hA) z3 (some (.int v4)) (some (.int v5)) (some (.int v6))
theorem ms_207_L150 {L : Nat} {xs : Nat → Int32} {d : Nat} (hd : 4 ≤ d) {v1 : Int32} {v2 : Int32} {v4 : Int32} {v5 : Int32} {v6 : Int32} {β : Type} {K : β → mm_M → mm_E → Prop} {F : (Int32) → mm_M → mm_O β} {M : mm_M} {q : (β ⊕ Nat) × mm_M} {o : mm_E} (h : mm_B (mf_207_L150 v1 v4 v5 (v2, v6) M) F = some q) (hA : mm_A K q o) (hx : ∀ (r : (Int32)) (M2 : mm_M), F r M2 = some q → (fun r M o => mp_207_181 L xs (d) v1 r M o) r M2 o) : mp_207_150 L xs d v1 v2 v4 v5 v6 M o := by
  unfold mf_207_L150 at h
  exact mm_R_loop (step := (fun s M => mf_207_b150 v1 s.1 v4 v5 s.2 M)) (s := (v2, v6)) (M := M) (P := (fun s M o => mp_207_150 L xs (d) v1 s.1 v4 v5 s.2 M o)) (X := (fun r M o => mp_207_181 L xs (d) v1 r M o)) h hA (fun s M q hq hA => ms_207_b150 (v1 := v1) (v2 := s.1) (v4 := v4) (v5 := v5) (v6 := s.2) (M := M) (q := q) hd hq hA) hx
set_option maxRecDepth 8000 in
set_option maxHeartbeats 4000000 in
theorem ms_207_j128 {L : Nat} {xs : Nat → Int32} {d : Nat} (hd : 4 ≤ d) {v1 : Int32} {v2 : Int32} {v4 : Int32} {v5 : Int32} {M : mm_M} {q : (((Int32) ⊕ (Unit)) ⊕ Nat) × mm_M} {o : mm_E} (h : mf_207_j128 v1 v2 v4 v5 M = some q) (hA : mm_A (mm_K2 (fun s M o => mp_207_2 L xs (d) v1 s M o) (fun r M o => mp_207_184 L xs (d) M o)) q o) : mp_207_128 L xs d v1 v2 v4 v5 M o := by
  unfold mf_207_j128 at h
  obtain ⟨d, rfl⟩ := mm_d1 (n := 3) hd
  intro z3 z6
  show mm_Runs L xs (d + 1) 207 (128, [some (.ref 84), some (.int v1), some (.int v2), z3, some (.int v4), some (.int v5), z6], [], M) o
  refine mm_Runs.seq (l := [(128, .aload_n 0, 1), (129, .getfield 154, 3)]) (S2 := (132, [some (.ref 84), some (.int v1), some (.int v2), z3, some (.int v4), some (.int v5), z6], [.int (M.1 84 7)], M)) (by decide +kernel) (hO := mm_own_207) rfl ?_
  refine mm_R_zne (t := 147) rfl rfl rfl (fun hc => ?_) (fun hc => ?_)
  · replace h := mm_ip hc h
    refine mm_Runs.seq (l := [(135, .iload_n 2, 1), (136, .iload 4, 2), (138, .iadd, 1), (139, .iload_n 1, 1)]) (S2 := (140, [some (.ref 84), some (.int v1), some (.int v2), z3, some (.int v4), some (.int v5), z6], [.int v1, .int (v2 + v4)], M)) (by decide +kernel) (hO := mm_own_207) rfl ?_
    refine mm_R_ile (t := 147) rfl rfl rfl (fun hc => ?_) (fun hc => ?_)
    · replace h := mm_ip hc h
      refine mm_Runs.seq (l := [(143, .aload_n 0, 1)]) (S2 := (144, [some (.ref 84), some (.int v1), some (.int v2), z3, some (.int v4), some (.int v5), z6], [.ref 84], M)) (by decide +kernel) (hO := mm_own_207) rfl ?_
      refine mm_R_call (v := mm_wv) h hA (k2 := 190) (as := [.ref 84]) (r := []) rfl (fun _ => rfl) (fun q hq o ho => ms_190 (by omega) hq ho) (fun _ M1 h => ?_)
      show mm_Runs L xs (d + 1) 207 (147, [some (.ref 84), some (.int v1), some (.int v2), z3, some (.int v4), some (.int v5), z6], [], M1) o
      refine mm_Runs.seq (l := [(147, .iconst 0, 1), (148, .istore 6, 2)]) (S2 := (150, [some (.ref 84), some (.int v1), some (.int v2), z3, some (.int v4), some (.int v5), some (.int (0 : Int32))], [], M1)) (by decide +kernel) (hO := mm_own_207) rfl ?_
      have hp : mp_207_150 L xs (d + 1) v1 v2 v4 v5 (0 : Int32) M1 o := by
        refine ms_207_L150 hd h hA (fun r3 M2 h => ?_)
        intro y4 y5 y6 y7
        show mm_Runs L xs (d + 1) 207 (181, [some (.ref 84), some (.int v1), some (.int r3), y4, y5, y6, y7], [], M2) o
        refine mm_Runs.seq (l := [(181, .goto (-179), 3)]) (S2 := (2, [some (.ref 84), some (.int v1), some (.int r3), y4, y5, y6, y7], [], M2)) (by decide +kernel) (hO := mm_own_207) rfl ?_
        cases h
        exact (show mp_207_2 L xs (d + 1) v1 r3 M2 o from hA) y4 y5 y6 y7
      exact hp z3
    · replace h := mm_iq hc h
      refine mm_Runs.seq (l := [(147, .iconst 0, 1), (148, .istore 6, 2)]) (S2 := (150, [some (.ref 84), some (.int v1), some (.int v2), z3, some (.int v4), some (.int v5), some (.int (0 : Int32))], [], M)) (by decide +kernel) (hO := mm_own_207) rfl ?_
      have hp : mp_207_150 L xs (d + 1) v1 v2 v4 v5 (0 : Int32) M o := by
        refine ms_207_L150 hd h hA (fun r9 M8 h => ?_)
        intro y10 y11 y12 y13
        show mm_Runs L xs (d + 1) 207 (181, [some (.ref 84), some (.int v1), some (.int r9), y10, y11, y12, y13], [], M8) o
        refine mm_Runs.seq (l := [(181, .goto (-179), 3)]) (S2 := (2, [some (.ref 84), some (.int v1), some (.int r9), y10, y11, y12, y13], [], M8)) (by decide +kernel) (hO := mm_own_207) rfl ?_
        cases h
        exact (show mp_207_2 L xs (d + 1) v1 r9 M8 o from hA) y10 y11 y12 y13
      exact hp z3
  · replace h := mm_iq hc h
    refine mm_Runs.seq (l := [(147, .iconst 0, 1), (148, .istore 6, 2)]) (S2 := (150, [some (.ref 84), some (.int v1), some (.int v2), z3, some (.int v4), some (.int v5), some (.int (0 : Int32))], [], M)) (by decide +kernel) (hO := mm_own_207) rfl ?_
    have hp : mp_207_150 L xs (d + 1) v1 v2 v4 v5 (0 : Int32) M o := by
      refine ms_207_L150 hd h hA (fun r15 M14 h => ?_)
      intro y16 y17 y18 y19
      show mm_Runs L xs (d + 1) 207 (181, [some (.ref 84), some (.int v1), some (.int r15), y16, y17, y18, y19], [], M14) o
      refine mm_Runs.seq (l := [(181, .goto (-179), 3)]) (S2 := (2, [some (.ref 84), some (.int v1), some (.int r15), y16, y17, y18, y19], [], M14)) (by decide +kernel) (hO := mm_own_207) rfl ?_
      cases h
      exact (show mp_207_2 L xs (d + 1) v1 r15 M14 o from hA) y16 y17 y18 y19
    exact hp z3
set_option maxRecDepth 8000 in
set_option maxHeartbeats 4000000 in
theorem ms_207_j126 {L : Nat} {xs : Nat → Int32} {d : Nat} (hd : 4 ≤ d) {v1 : Int32} {v2 : Int32} {v5 : Int32} {s0 : Int32} {M : mm_M} {q : (((Int32) ⊕ (Unit)) ⊕ Nat) × mm_M} {o : mm_E} (h : mf_207_j126 v1 v2 v5 s0 M = some q) (hA : mm_A (mm_K2 (fun s M o => mp_207_2 L xs (d) v1 s M o) (fun r M o => mp_207_184 L xs (d) M o)) q o) : mp_207_126 L xs d v1 v2 v5 s0 M o := by
  unfold mf_207_j126 at h
  obtain ⟨d, rfl⟩ := mm_d1 (n := 3) hd
  intro z3 z4 z6
  show mm_Runs L xs (d + 1) 207 (126, [some (.ref 84), some (.int v1), some (.int v2), z3, z4, some (.int v5), z6], [.int s0], M) o
  refine mm_Runs.seq (l := [(126, .istore 4, 2)]) (S2 := (128, [some (.ref 84), some (.int v1), some (.int v2), (mm_no2 z3), some (.int s0), some (.int v5), z6], [], M)) (by decide +kernel) (hO := mm_own_207) rfl ?_
  exact (ms_207_j128 hd h hA : mp_207_128 L xs (d + 1) v1 v2 s0 v5 M o) ((mm_no2 z3)) z6
set_option maxRecDepth 8000 in
set_option maxHeartbeats 4000000 in
theorem ms_207_j80 {L : Nat} {xs : Nat → Int32} {d : Nat} (hd : 4 ≤ d) {v1 : Int32} {v2 : Int32} {v3 : Int32} {s0 : Int32} {M : mm_M} {q : (((Int32) ⊕ (Unit)) ⊕ Nat) × mm_M} {o : mm_E} (h : mf_207_j80 v1 v2 v3 s0 M = some q) (hA : mm_A (mm_K2 (fun s M o => mp_207_2 L xs (d) v1 s M o) (fun r M o => mp_207_184 L xs (d) M o)) q o) : mp_207_80 L xs d v1 v2 v3 s0 M o := by
  unfold mf_207_j80 at h
  obtain ⟨d, rfl⟩ := mm_d1 (n := 3) hd
  intro z4 z5 z6
  show mm_Runs L xs (d + 1) 207 (80, [some (.ref 84), some (.int v1), some (.int v2), some (.int v3), z4, z5, z6], [.int s0], M) o
  refine mm_Runs.seq (l := [(80, .istore 5, 2), (82, .iload_n 3, 1), (83, .bipush 16, 2)]) (S2 := (85, [some (.ref 84), some (.int v1), some (.int v2), some (.int v3), (mm_no2 z4), some (.int s0), z6], [.int (16 : Int32), .int v3], M)) (by decide +kernel) (hO := mm_own_207) rfl ?_
  refine mm_R_ine (t := 99) rfl rfl rfl (fun hc => ?_) (fun hc => ?_)
  · replace h := mm_ip hc h
    refine mm_Runs.seq (l := [(88, .iconst 3, 1), (89, .aload_n 0, 1), (90, .iconst 2, 1)]) (S2 := (91, [some (.ref 84), some (.int v1), some (.int v2), some (.int v3), (mm_no2 z4), some (.int s0), z6], [.int (2 : Int32), .ref 84, .int (3 : Int32)], M)) (by decide +kernel) (hO := mm_own_207) rfl ?_
    refine mm_R_call (v := mm_wl) h hA (k2 := 198) (as := [.ref 84, .int (2 : Int32)]) (r := [.int (3 : Int32)]) rfl (fun _ => rfl) (fun q hq o ho => ms_198 (by omega) hq ho) (fun r1 M2 h => ?_)
    show mm_Runs L xs (d + 1) 207 (94, [some (.ref 84), some (.int v1), some (.int v2), some (.int v3), (mm_no2 z4), some (.int s0), z6], [.long r1, .int (3 : Int32)], M2) o
    refine mm_Runs.seq (l := [(94, .l2i, 1), (95, .iadd, 1), (96, .goto 30, 3)]) (S2 := (126, [some (.ref 84), some (.int v1), some (.int v2), some (.int v3), (mm_no2 z4), some (.int s0), z6], [.int ((3 : Int32) + r1.toInt32)], M2)) (by decide +kernel) (hO := mm_own_207) rfl ?_
    exact (ms_207_j126 hd h hA : mp_207_126 L xs (d + 1) v1 v2 s0 ((3 : Int32) + r1.toInt32) M2 o) (some (.int v3)) ((mm_no2 z4)) z6
  · replace h := mm_iq hc h
    refine mm_Runs.seq (l := [(99, .iload_n 3, 1), (100, .bipush 17, 2)]) (S2 := (102, [some (.ref 84), some (.int v1), some (.int v2), some (.int v3), (mm_no2 z4), some (.int s0), z6], [.int (17 : Int32), .int v3], M)) (by decide +kernel) (hO := mm_own_207) rfl ?_
    refine mm_R_ine (t := 116) rfl rfl rfl (fun hc => ?_) (fun hc => ?_)
    · replace h := mm_ip hc h
      refine mm_Runs.seq (l := [(105, .iconst 3, 1), (106, .aload_n 0, 1), (107, .iconst 3, 1)]) (S2 := (108, [some (.ref 84), some (.int v1), some (.int v2), some (.int v3), (mm_no2 z4), some (.int s0), z6], [.int (3 : Int32), .ref 84, .int (3 : Int32)], M)) (by decide +kernel) (hO := mm_own_207) rfl ?_
      refine mm_R_call (v := mm_wl) h hA (k2 := 198) (as := [.ref 84, .int (3 : Int32)]) (r := [.int (3 : Int32)]) rfl (fun _ => rfl) (fun q hq o ho => ms_198 (by omega) hq ho) (fun r3 M4 h => ?_)
      show mm_Runs L xs (d + 1) 207 (111, [some (.ref 84), some (.int v1), some (.int v2), some (.int v3), (mm_no2 z4), some (.int s0), z6], [.long r3, .int (3 : Int32)], M4) o
      refine mm_Runs.seq (l := [(111, .l2i, 1), (112, .iadd, 1), (113, .goto 13, 3)]) (S2 := (126, [some (.ref 84), some (.int v1), some (.int v2), some (.int v3), (mm_no2 z4), some (.int s0), z6], [.int ((3 : Int32) + r3.toInt32)], M4)) (by decide +kernel) (hO := mm_own_207) rfl ?_
      exact (ms_207_j126 hd h hA : mp_207_126 L xs (d + 1) v1 v2 s0 ((3 : Int32) + r3.toInt32) M4 o) (some (.int v3)) ((mm_no2 z4)) z6
    · replace h := mm_iq hc h
      refine mm_Runs.seq (l := [(116, .bipush 11, 2), (118, .aload_n 0, 1), (119, .bipush 7, 2)]) (S2 := (121, [some (.ref 84), some (.int v1), some (.int v2), some (.int v3), (mm_no2 z4), some (.int s0), z6], [.int (7 : Int32), .ref 84, .int (11 : Int32)], M)) (by decide +kernel) (hO := mm_own_207) rfl ?_
      refine mm_R_call (v := mm_wl) h hA (k2 := 198) (as := [.ref 84, .int (7 : Int32)]) (r := [.int (11 : Int32)]) rfl (fun _ => rfl) (fun q hq o ho => ms_198 (by omega) hq ho) (fun r5 M6 h => ?_)
      show mm_Runs L xs (d + 1) 207 (124, [some (.ref 84), some (.int v1), some (.int v2), some (.int v3), (mm_no2 z4), some (.int s0), z6], [.long r5, .int (11 : Int32)], M6) o
      refine mm_Runs.seq (l := [(124, .l2i, 1), (125, .iadd, 1)]) (S2 := (126, [some (.ref 84), some (.int v1), some (.int v2), some (.int v3), (mm_no2 z4), some (.int s0), z6], [.int ((11 : Int32) + r5.toInt32)], M6)) (by decide +kernel) (hO := mm_own_207) rfl ?_
      exact (ms_207_j126 hd h hA : mp_207_126 L xs (d + 1) v1 v2 s0 ((11 : Int32) + r5.toInt32) M6 o) (some (.int v3)) ((mm_no2 z4)) z6
set_option maxRecDepth 8000 in
set_option maxHeartbeats 4000000 in
theorem ms_207_j49 {L : Nat} {xs : Nat → Int32} {d : Nat} (hd : 4 ≤ d) {v1 : Int32} {v2 : Int32} {v3 : Int32} {v4 : Int32} {v5 : Int32} {M : mm_M} {q : (((Int32) ⊕ (Unit)) ⊕ Nat) × mm_M} {o : mm_E} (h : mf_207_j49 v1 v2 v3 v4 v5 M = some q) (hA : mm_A (mm_K2 (fun s M o => mp_207_2 L xs (d) v1 s M o) (fun r M o => mp_207_184 L xs (d) M o)) q o) : mp_207_49 L xs d v1 v2 v3 v4 v5 M o := by
  unfold mf_207_j49 at h
  obtain ⟨d, rfl⟩ := mm_d1 (n := 3) hd
  intro z6
  show mm_Runs L xs (d + 1) 207 (49, [some (.ref 84), some (.int v1), some (.int v2), some (.int v3), some (.int v4), some (.int v5), z6], [], M) o
  refine mm_Runs.seq (l := [(49, .aload_n 0, 1), (50, .getfield 154, 3)]) (S2 := (53, [some (.ref 84), some (.int v1), some (.int v2), some (.int v3), some (.int v4), some (.int v5), z6], [.int (M.1 84 7)], M)) (by decide +kernel) (hO := mm_own_207) rfl ?_
  refine mm_R_zne (t := 128) rfl rfl rfl (fun hc => ?_) (fun hc => ?_)
  · replace h := mm_ip hc h
    refine mm_Runs.seq (l := [(56, .iload_n 3, 1), (57, .bipush 15, 2)]) (S2 := (59, [some (.ref 84), some (.int v1), some (.int v2), some (.int v3), some (.int v4), some (.int v5), z6], [.int (15 : Int32), .int v3], M)) (by decide +kernel) (hO := mm_own_207) rfl ?_
    refine mm_R_ile (t := 128) rfl rfl rfl (fun hc => ?_) (fun hc => ?_)
    · replace h := mm_ip hc h
      refine mm_Runs.seq (l := [(62, .iload_n 3, 1), (63, .bipush 16, 2)]) (S2 := (65, [some (.ref 84), some (.int v1), some (.int v2), some (.int v3), some (.int v4), some (.int v5), z6], [.int (16 : Int32), .int v3], M)) (by decide +kernel) (hO := mm_own_207) rfl ?_
      refine mm_R_ine (t := 79) rfl rfl rfl (fun hc => ?_) (fun hc => ?_)
      · replace h := mm_ip hc h
        refine mm_Runs.seq (l := [(68, .aload_n 0, 1), (69, .getfield 25, 3), (72, .iload_n 2, 1), (73, .iconst 1, 1), (74, .isub, 1)]) (S2 := (75, [some (.ref 84), some (.int v1), some (.int v2), some (.int v3), some (.int v4), some (.int v5), z6], [.int (v2 - (1 : Int32)), .ref 90], M)) (by decide +kernel) (hO := mm_own_207) rfl ?_
        obtain ⟨hb, h⟩ := mm_gd h
        refine mm_R_iald rfl rfl hb ?_
        refine mm_Runs.seq (l := [(76, .goto 4, 3)]) (S2 := (80, [some (.ref 84), some (.int v1), some (.int v2), some (.int v3), some (.int v4), some (.int v5), z6], [.int (M.1 90 (v2 - (1 : Int32)).toNatClampNeg)], M)) (by decide +kernel) (hO := mm_own_207) rfl ?_
        exact (ms_207_j80 hd h hA : mp_207_80 L xs (d + 1) v1 v2 v3 (M.1 90 (v2 - (1 : Int32)).toNatClampNeg) M o) (some (.int v4)) (some (.int v5)) z6
      · replace h := mm_iq hc h
        refine mm_Runs.seq (l := [(79, .iconst 0, 1)]) (S2 := (80, [some (.ref 84), some (.int v1), some (.int v2), some (.int v3), some (.int v4), some (.int v5), z6], [.int (0 : Int32)], M)) (by decide +kernel) (hO := mm_own_207) rfl ?_
        exact (ms_207_j80 hd h hA : mp_207_80 L xs (d + 1) v1 v2 v3 (0 : Int32) M o) (some (.int v4)) (some (.int v5)) z6
    · replace h := mm_iq hc h
      exact (ms_207_j128 hd h hA : mp_207_128 L xs (d + 1) v1 v2 v4 v5 M o) (some (.int v3)) z6
  · replace h := mm_iq hc h
    exact (ms_207_j128 hd h hA : mp_207_128 L xs (d + 1) v1 v2 v4 v5 M o) (some (.int v3)) z6
set_option maxRecDepth 8000 in
set_option maxHeartbeats 4000000 in
theorem ms_207_b2 {L : Nat} {xs : Nat → Int32} {d : Nat} (hd : 4 ≤ d) {v1 : Int32} {v2 : Int32} {M : mm_M} {q : (((Int32) ⊕ (Unit)) ⊕ Nat) × mm_M} {o : mm_E} (h : mf_207_b2 v1 v2 M = some q) (hA : mm_A (mm_K2 (fun s M o => mp_207_2 L xs (d) v1 s M o) (fun r M o => mp_207_184 L xs (d) M o)) q o) : mp_207_2 L xs d v1 v2 M o := by
  unfold mf_207_b2 at h
  obtain ⟨d, rfl⟩ := mm_d1 (n := 3) hd
  intro z3 z4 z5 z6
  show mm_Runs L xs (d + 1) 207 (2, [some (.ref 84), some (.int v1), some (.int v2), z3, z4, z5, z6], [], M) o
  refine mm_Runs.seq (l := [(2, .iload_n 2, 1), (3, .iload_n 1, 1)]) (S2 := (4, [some (.ref 84), some (.int v1), some (.int v2), z3, z4, z5, z6], [.int v1, .int v2], M)) (by decide +kernel) (hO := mm_own_207) rfl ?_
  refine mm_R_ige (t := 184) rfl rfl rfl (fun hc => ?_) (fun hc => ?_)
  · replace h := mm_ip hc h
    refine mm_Runs.seq (l := [(7, .aload_n 0, 1), (8, .getfield 154, 3)]) (S2 := (11, [some (.ref 84), some (.int v1), some (.int v2), z3, z4, z5, z6], [.int (M.1 84 7)], M)) (by decide +kernel) (hO := mm_own_207) rfl ?_
    refine mm_R_zne (t := 184) rfl rfl rfl (fun hc => ?_) (fun hc => ?_)
    · replace h := mm_ip hc h
      refine mm_Runs.seq (l := [(14, .aload_n 0, 1), (15, .iconst 2, 1), (16, .bipush 19, 2)]) (S2 := (18, [some (.ref 84), some (.int v1), some (.int v2), z3, z4, z5, z6], [.int (19 : Int32), .int (2 : Int32), .ref 84], M)) (by decide +kernel) (hO := mm_own_207) rfl ?_
      refine mm_R_call (v := mm_wi) h hA (k2 := 202) (as := [.ref 84, .int (2 : Int32), .int (19 : Int32)]) (r := []) rfl (fun _ => rfl) (fun q hq o ho => ms_202 (by omega) hq ho) (fun r1 M2 h => ?_)
      show mm_Runs L xs (d + 1) 207 (21, [some (.ref 84), some (.int v1), some (.int v2), z3, z4, z5, z6], [.int r1], M2) o
      refine mm_Runs.seq (l := [(21, .istore_n 3, 1), (22, .iconst 1, 1), (23, .istore 4, 2), (25, .iload_n 3, 1), (26, .istore 5, 2), (28, .aload_n 0, 1), (29, .getfield 154, 3)]) (S2 := (32, [some (.ref 84), some (.int v1), some (.int v2), some (.int r1), some (.int (1 : Int32)), some (.int r1), z6], [.int (M2.1 84 7)], M2)) (by decide +kernel) (hO := mm_own_207) rfl ?_
      refine mm_R_zne (t := 49) rfl rfl rfl (fun hc => ?_) (fun hc => ?_)
      · replace h := mm_ip hc h
        refine mm_Runs.seq (l := [(35, .iload_n 3, 1), (36, .bipush 16, 2)]) (S2 := (38, [some (.ref 84), some (.int v1), some (.int v2), some (.int r1), some (.int (1 : Int32)), some (.int r1), z6], [.int (16 : Int32), .int r1], M2)) (by decide +kernel) (hO := mm_own_207) rfl ?_
        refine mm_R_ine (t := 49) rfl rfl rfl (fun hc => ?_) (fun hc => ?_)
        · replace h := mm_ip hc h
          refine mm_Runs.seq (l := [(41, .iload_n 2, 1)]) (S2 := (42, [some (.ref 84), some (.int v1), some (.int v2), some (.int r1), some (.int (1 : Int32)), some (.int r1), z6], [.int v2], M2)) (by decide +kernel) (hO := mm_own_207) rfl ?_
          refine mm_R_zne (t := 49) rfl rfl rfl (fun hc => ?_) (fun hc => ?_)
          · replace h := mm_ip hc h
            refine mm_Runs.seq (l := [(45, .aload_n 0, 1)]) (S2 := (46, [some (.ref 84), some (.int v1), some (.int v2), some (.int r1), some (.int (1 : Int32)), some (.int r1), z6], [.ref 84], M2)) (by decide +kernel) (hO := mm_own_207) rfl ?_
            refine mm_R_call (v := mm_wv) h hA (k2 := 190) (as := [.ref 84]) (r := []) rfl (fun _ => rfl) (fun q hq o ho => ms_190 (by omega) hq ho) (fun _ M3 h => ?_)
            show mm_Runs L xs (d + 1) 207 (49, [some (.ref 84), some (.int v1), some (.int v2), some (.int r1), some (.int (1 : Int32)), some (.int r1), z6], [], M3) o
            exact (ms_207_j49 hd h hA : mp_207_49 L xs (d + 1) v1 v2 r1 (1 : Int32) r1 M3 o) z6
          · replace h := mm_iq hc h
            exact (ms_207_j49 hd h hA : mp_207_49 L xs (d + 1) v1 v2 r1 (1 : Int32) r1 M2 o) z6
        · replace h := mm_iq hc h
          exact (ms_207_j49 hd h hA : mp_207_49 L xs (d + 1) v1 v2 r1 (1 : Int32) r1 M2 o) z6
      · replace h := mm_iq hc h
        exact (ms_207_j49 hd h hA : mp_207_49 L xs (d + 1) v1 v2 r1 (1 : Int32) r1 M2 o) z6
    · replace h := mm_iq hc h
      cases h
      exact (show mp_207_184 L xs (d + 1) M o from hA) (some (.ref 84)) (some (.int v1)) (some (.int v2)) z3 z4 z5 z6
  · replace h := mm_iq hc h
    cases h
    exact (show mp_207_184 L xs (d + 1) M o from hA) (some (.ref 84)) (some (.int v1)) (some (.int v2)) z3 z4 z5 z6
theorem ms_207_L2 {L : Nat} {xs : Nat → Int32} {d : Nat} (hd : 4 ≤ d) {v1 : Int32} {v2 : Int32} {β : Type} {K : β → mm_M → mm_E → Prop} {F : (Unit) → mm_M → mm_O β} {M : mm_M} {q : (β ⊕ Nat) × mm_M} {o : mm_E} (h : mm_B (mf_207_L2 v1 v2 M) F = some q) (hA : mm_A K q o) (hx : ∀ (r : (Unit)) (M2 : mm_M), F r M2 = some q → (fun r M o => mp_207_184 L xs (d) M o) r M2 o) : mp_207_2 L xs d v1 v2 M o := by
  unfold mf_207_L2 at h
  exact mm_R_loop (step := (fun s M => mf_207_b2 v1 s M)) (s := v2) (M := M) (P := (fun s M o => mp_207_2 L xs (d) v1 s M o)) (X := (fun r M o => mp_207_184 L xs (d) M o)) h hA (fun s M q hq hA => ms_207_b2 (v1 := v1) (v2 := s) (M := M) (q := q) hd hq hA) hx
set_option maxRecDepth 8000 in
set_option maxHeartbeats 4000000 in
theorem ms_207 {L : Nat} {xs : Nat → Int32} {d : Nat} (hd : 4 ≤ d) {v1 : Int32} {M : mm_M} {q : (Unit ⊕ Nat) × mm_M} {o : mm_E} (h : mf_207 v1 M = some q) (hA : mm_A (mm_Kr mm_wv) q o) : mm_Runs L xs d 207 (0, mm_ent (mm_ml 207) [.ref 84, .int v1], [], M) o := by
  unfold mf_207 at h
  obtain ⟨d, rfl⟩ := mm_d1 (n := 3) hd
  show mm_Runs L xs (d + 1) 207 (0, [some (.ref 84), some (.int v1), none, none, none, none, none], [], M) o
  refine mm_Runs.seq (l := [(0, .iconst 0, 1), (1, .istore_n 2, 1)]) (S2 := (2, [some (.ref 84), some (.int v1), some (.int (0 : Int32)), none, none, none, none], [], M)) (by decide +kernel) (hO := mm_own_207) rfl ?_
  have hp : mp_207_2 L xs (d + 1) v1 (0 : Int32) M o := by
    refine ms_207_L2 hd h hA (fun r2 M1 h => ?_)
    intro y3 y4 y5 y6 y7 y8 y9
    show mm_Runs L xs (d + 1) 207 (184, [y3, y4, y5, y6, y7, y8, y9], [], M1) o
    cases h
    exact mm_R_retv rfl rfl hA
  exact hp none none none none
