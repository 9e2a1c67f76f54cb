/-! MEANINGS ARE SOUND 25 -/
-- 61: PlainPacks$Writer.bit(I)V (depth 1)
theorem mm_own_61 : mm_own 61 = 3 := rfl
def mp_61_30 (L : Nat) (xs : Nat → Int32) (d : Nat) (s1 : Int32) (s2 : Int32) (M : mm_M) (o : mm_E) : Prop := ∀ z1 : Option Value, mm_Runs L xs d 61 (30, [some (.ref 5), z1], [.int s2, .int s1, .ref 5], M) o
set_option maxRecDepth 8000 in
set_option maxHeartbeats 4000000 in
theorem ms_61_j30 {L : Nat} {xs : Nat → Int32} {d : Nat} (hd : 1 ≤ d) {s1 : Int32} {s2 : Int32} {M : mm_M} {q : (Unit ⊕ Nat) × mm_M} {o : mm_E} (h : mf_61_j30 s1 s2 M = some q) (hA : mm_A (mm_Kr mm_wv) q o) : mp_61_30 L xs d s1 s2 M o := by
  unfold mf_61_j30 at h
  obtain ⟨d, rfl⟩ := mm_d1 (n := 0) hd
  intro z1
  show mm_Runs L xs (d + 1) 61 (30, [some (.ref 5), z1], [.int s2, .int s1, .ref 5], M) o
  refine mm_Runs.seq (l := [(30, .ior, 1), (31, .putfield 30, 3), (34, .aload_n 0, 1), (35, .dup, 1), (36, .getfield 33, 3), (39, .iconst 1, 1), (40, .iadd, 1), (41, .putfield 33, 3), (44, .aload_n 0, 1), (45, .getfield 33, 3), (48, .bipush 8, 2)]) (S2 := (50, [some (.ref 5), z1], [.int (8 : Int32), .int ((M.1 5 5) + (1 : Int32))], (mm_pi (mm_pi M 5 4 (s1 ||| s2)) 5 5 ((M.1 5 5) + (1 : Int32))))) (by decide +kernel) (hO := mm_own_61) rfl ?_
  refine mm_R_ine (t := 71) rfl rfl rfl (fun hc => ?_) (fun hc => ?_)
  · replace h := mm_ip hc h
    refine mm_Runs.seq (l := [(53, .aload_n 0, 1), (54, .aload_n 0, 1), (55, .getfield 30, 3)]) (S2 := (58, [some (.ref 5), z1], [.int (s1 ||| s2), .ref 5], (mm_pi (mm_pi M 5 4 (s1 ||| s2)) 5 5 ((M.1 5 5) + (1 : Int32))))) (by decide +kernel) (hO := mm_own_61) rfl ?_
    refine mm_R_call (v := mm_wv) h hA (k2 := 57) (as := [.ref 5, .int (s1 ||| s2)]) (r := []) rfl (fun _ => rfl) (fun q hq o ho => ms_57 (by omega) hq ho) (fun _ M1 h => ?_)
    show mm_Runs L xs (d + 1) 61 (61, [some (.ref 5), z1], [], M1) o
    refine mm_Runs.seq (l := [(61, .aload_n 0, 1), (62, .iconst 0, 1), (63, .putfield 30, 3), (66, .aload_n 0, 1), (67, .iconst 0, 1), (68, .putfield 33, 3)]) (S2 := (71, [some (.ref 5), z1], [], (mm_pi (mm_pi M1 5 4 (0 : Int32)) 5 5 (0 : Int32)))) (by decide +kernel) (hO := mm_own_61) rfl ?_
    cases h
    exact mm_R_retv rfl rfl hA
  · replace h := mm_iq hc h
    cases h
    exact mm_R_retv rfl rfl hA
set_option maxRecDepth 8000 in
set_option maxHeartbeats 4000000 in
theorem ms_61 {L : Nat} {xs : Nat → Int32} {d : Nat} (hd : 1 ≤ d) {v1 : Int32} {M : mm_M} {q : (Unit ⊕ Nat) × mm_M} {o : mm_E} (h : mf_61 v1 M = some q) (hA : mm_A (mm_Kr mm_wv) q o) : mm_Runs L xs d 61 (0, mm_ent (mm_ml 61) [.ref 5, .int v1], [], M) o := by
  unfold mf_61 at h
  obtain ⟨d, rfl⟩ := mm_d1 (n := 0) hd
  show mm_Runs L xs (d + 1) 61 (0, [some (.ref 5), some (.int v1)], [], M) o
  refine mm_Runs.seq (l := [(0, .aload_n 0, 1), (1, .dup, 1), (2, .getfield 30, 3), (5, .aload_n 0, 1), (6, .getfield 19, 3)]) (S2 := (9, [some (.ref 5), some (.int v1)], [.int (M.1 5 3), .int (M.1 5 4), .ref 5], M)) (by decide +kernel) (hO := mm_own_61) rfl ?_
  refine mm_R_zeq (t := 24) rfl rfl rfl (fun hc => ?_) (fun hc => ?_)
  · replace h := mm_ip hc h
    refine mm_Runs.seq (l := [(24, .iload_n 1, 1), (25, .aload_n 0, 1), (26, .getfield 33, 3), (29, .ishl, 1)]) (S2 := (30, [some (.ref 5), some (.int v1)], [.int (mm_shl v1 (M.1 5 5)), .int (M.1 5 4), .ref 5], M)) (by decide +kernel) (hO := mm_own_61) rfl ?_
    exact (ms_61_j30 hd h hA : mp_61_30 L xs (d + 1) (M.1 5 4) (mm_shl v1 (M.1 5 5)) M o) (some (.int v1))
  · replace h := mm_iq hc h
    refine mm_Runs.seq (l := [(12, .iload_n 1, 1), (13, .bipush 7, 2), (15, .aload_n 0, 1), (16, .getfield 33, 3), (19, .isub, 1), (20, .ishl, 1), (21, .goto 9, 3)]) (S2 := (30, [some (.ref 5), some (.int v1)], [.int (mm_shl v1 ((7 : Int32) - (M.1 5 5))), .int (M.1 5 4), .ref 5], M)) (by decide +kernel) (hO := mm_own_61) rfl ?_
    exact (ms_61_j30 hd h hA : mp_61_30 L xs (d + 1) (M.1 5 4) (mm_shl v1 ((7 : Int32) - (M.1 5 5))) M o) (some (.int v1))
-- 62: PlainPacks$Writer.bits(JI)V (depth 2)
theorem mm_own_62 : mm_own 62 = 3 := rfl
def mp_62_3 (L : Nat) (xs : Nat → Int32) (d : Nat) (v1 : Int64) (v3 : Int32) (v4 : Int32) (M : mm_M) (o : mm_E) : Prop := ∀ z2 : Option Value, mm_Runs L xs d 62 (3, [some (.ref 5), some (.long v1), z2, some (.int v3), some (.int v4)], [], M) o
def mp_62_42 (L : Nat) (xs : Nat → Int32) (d : Nat) (M : mm_M) (o : mm_E) : Prop := ∀ z0 z1 z2 z3 z4 : Option Value, mm_Runs L xs d 62 (42, [z0, z1, z2, z3, z4], [], M) o
def mp_62_29 (L : Nat) (xs : Nat → Int32) (d : Nat) (v1 : Int64) (v3 : Int32) (v4 : Int32) (s1 : Int64) (s2 : Int32) (M : mm_M) (o : mm_E) : Prop := ∀ z2 : Option Value, mm_Runs L xs d 62 (29, [some (.ref 5), some (.long v1), z2, some (.int v3), some (.int v4)], [.int s2, .long s1, .ref 5], M) o
set_option maxRecDepth 8000 in
set_option maxHeartbeats 4000000 in
theorem ms_62_j29 {L : Nat} {xs : Nat → Int32} {d : Nat} (hd : 2 ≤ d) {v1 : Int64} {v3 : Int32} {v4 : Int32} {s1 : Int64} {s2 : Int32} {M : mm_M} {q : (((Int32) ⊕ (Unit)) ⊕ Nat) × mm_M} {o : mm_E} (h : mf_62_j29 v1 v3 v4 s1 s2 M = some q) (hA : mm_A (mm_K2 (fun s M o => mp_62_3 L xs (d) v1 v3 s M o) (fun r M o => mp_62_42 L xs (d) M o)) q o) : mp_62_29 L xs d v1 v3 v4 s1 s2 M o := by
  unfold mf_62_j29 at h
  obtain ⟨d, rfl⟩ := mm_d1 (n := 1) hd
  intro z2
  show mm_Runs L xs (d + 1) 62 (29, [some (.ref 5), some (.long v1), z2, some (.int v3), some (.int v4)], [.int s2, .long s1, .ref 5], M) o
  refine mm_Runs.seq (l := [(29, .lushr, 1), (30, .lconst 1, 1), (31, .land, 1), (32, .l2i, 1)]) (S2 := (33, [some (.ref 5), some (.long v1), z2, some (.int v3), some (.int v4)], [.int ((mm_lush s1 s2) &&& (1 : Int64)).toInt32, .ref 5], M)) (by decide +kernel) (hO := mm_own_62) rfl ?_
  refine mm_R_call (v := mm_wv) h hA (k2 := 61) (as := [.ref 5, .int ((mm_lush s1 s2) &&& (1 : Int64)).toInt32]) (r := []) rfl (fun _ => rfl) (fun q hq o ho => ms_61 (by omega) hq ho) (fun _ M1 h => ?_)
  show mm_Runs L xs (d + 1) 62 (36, [some (.ref 5), some (.long v1), z2, some (.int v3), some (.int v4)], [], M1) o
  refine mm_Runs.seq (l := [(36, .iinc 4 1, 3), (39, .goto (-36), 3)]) (S2 := (3, [some (.ref 5), some (.long v1), z2, some (.int v3), some (.int (v4 + (1 : Int32)))], [], M1)) (by decide +kernel) (hO := mm_own_62) rfl ?_
  cases h
  exact (show mp_62_3 L xs (d + 1) v1 v3 (v4 + (1 : Int32)) M1 o from hA) z2
set_option maxRecDepth 8000 in
set_option maxHeartbeats 4000000 in
theorem ms_62_b3 {L : Nat} {xs : Nat → Int32} {d : Nat} (hd : 2 ≤ d) {v1 : Int64} {v3 : Int32} {v4 : Int32} {M : mm_M} {q : (((Int32) ⊕ (Unit)) ⊕ Nat) × mm_M} {o : mm_E} (h : mf_62_b3 v1 v3 v4 M = some q) (hA : mm_A (mm_K2 (fun s M o => mp_62_3 L xs (d) v1 v3 s M o) (fun r M o => mp_62_42 L xs (d) M o)) q o) : mp_62_3 L xs d v1 v3 v4 M o := by
  unfold mf_62_b3 at h
  obtain ⟨d, rfl⟩ := mm_d1 (n := 1) hd
  intro z2
  show mm_Runs L xs (d + 1) 62 (3, [some (.ref 5), some (.long v1), z2, some (.int v3), some (.int v4)], [], M) o
  refine mm_Runs.seq (l := [(3, .iload 4, 2), (5, .iload_n 3, 1)]) (S2 := (6, [some (.ref 5), some (.long v1), z2, some (.int v3), some (.int v4)], [.int v3, .int v4], M)) (by decide +kernel) (hO := mm_own_62) rfl ?_
  refine mm_R_ige (t := 42) rfl rfl rfl (fun hc => ?_) (fun hc => ?_)
  · replace h := mm_ip hc h
    refine mm_Runs.seq (l := [(9, .aload_n 0, 1), (10, .lload_n 1, 1), (11, .aload_n 0, 1), (12, .getfield 19, 3)]) (S2 := (15, [some (.ref 5), some (.long v1), z2, some (.int v3), some (.int v4)], [.int (M.1 5 3), .long v1, .ref 5], M)) (by decide +kernel) (hO := mm_own_62) rfl ?_
    refine mm_R_zeq (t := 27) rfl rfl rfl (fun hc => ?_) (fun hc => ?_)
    · replace h := mm_ip hc h
      refine mm_Runs.seq (l := [(27, .iload 4, 2)]) (S2 := (29, [some (.ref 5), some (.long v1), z2, some (.int v3), some (.int v4)], [.int v4, .long v1, .ref 5], M)) (by decide +kernel) (hO := mm_own_62) rfl ?_
      exact (ms_62_j29 hd h hA : mp_62_29 L xs (d + 1) v1 v3 v4 v1 v4 M o) z2
    · replace h := mm_iq hc h
      refine mm_Runs.seq (l := [(18, .iload_n 3, 1), (19, .iconst 1, 1), (20, .isub, 1), (21, .iload 4, 2), (23, .isub, 1), (24, .goto 5, 3)]) (S2 := (29, [some (.ref 5), some (.long v1), z2, some (.int v3), some (.int v4)], [.int ((v3 - (1 : Int32)) - v4), .long v1, .ref 5], M)) (by decide +kernel) (hO := mm_own_62) rfl ?_
      exact (ms_62_j29 hd h hA : mp_62_29 L xs (d + 1) v1 v3 v4 v1 ((v3 - (1 : Int32)) - v4) M o) z2
  · replace h := mm_iq hc h
    cases h
    exact (show mp_62_42 L xs (d + 1) M o from hA) (some (.ref 5)) (some (.long v1)) z2 (some (.int v3)) (some (.int v4))
theorem ms_62_L3 {L : Nat} {xs : Nat → Int32} {d : Nat} (hd : 2 ≤ d) {v1 : Int64} {v3 : Int32} {v4 : Int32} {β : Type} {K : β → mm_M → mm_E → Prop} {F : (Unit) → mm_M → mm_O β} {M : mm_M} {q : (β ⊕ Nat) × mm_M} {o : mm_E} (h : mm_B (mf_62_L3 v1 v3 v4 M) F = some q) (hA : mm_A K q o) (hx : ∀ (r : (Unit)) (M2 : mm_M), F r M2 = some q → (fun r M o => mp_62_42 L xs (d) M o) r M2 o) : mp_62_3 L xs d v1 v3 v4 M o := by
  unfold mf_62_L3 at h
  exact mm_R_loop (step := (fun s M => mf_62_b3 v1 v3 s M)) (s := v4) (M := M) (P := (fun s M o => mp_62_3 L xs (d) v1 v3 s M o)) (X := (fun r M o => mp_62_42 L xs (d) M o)) h hA (fun s M q hq hA => ms_62_b3 (v1 := v1) (v3 := v3) (v4 := s) (M := M) (q := q) hd hq hA) hx
set_option maxRecDepth 8000 in
set_option maxHeartbeats 4000000 in
theorem ms_62 {L : Nat} {xs : Nat → Int32} {d : Nat} (hd : 2 ≤ d) {v1 : Int64} {v3 : Int32} {M : mm_M} {q : (Unit ⊕ Nat) × mm_M} {o : mm_E} (h : mf_62 v1 v3 M = some q) (hA : mm_A (mm_Kr mm_wv) q o) : mm_Runs L xs d 62 (0, mm_ent (mm_ml 62) [.ref 5, .long v1, .int v3], [], M) o := by
  unfold mf_62 at h
  obtain ⟨d, rfl⟩ := mm_d1 (n := 1) hd
  show mm_Runs L xs (d + 1) 62 (0, [some (.ref 5), some (.long v1), none, some (.int v3), none], [], M) o
  refine mm_Runs.seq (l := [(0, .iconst 0, 1), (1, .istore 4, 2)]) (S2 := (3, [some (.ref 5), some (.long v1), none, some (.int v3), some (.int (0 : Int32))], [], M)) (by decide +kernel) (hO := mm_own_62) rfl ?_
  have hp : mp_62_3 L xs (d + 1) v1 v3 (0 : Int32) M o := by
    refine ms_62_L3 hd h hA (fun r2 M1 h => ?_)
    intro y3 y4 y5 y6 y7
    show mm_Runs L xs (d + 1) 62 (42, [y3, y4, y5, y6, y7], [], M1) o
    cases h
    exact mm_R_retv rfl rfl hA
  exact hp none
-- 70: PlainPacks$Finder.start()V (depth 1)
theorem mm_own_70 : mm_own 70 = 5 := rfl
set_option maxRecDepth 8000 in
set_option maxHeartbeats 4000000 in
theorem ms_70 {L : Nat} {xs : Nat → Int32} {d : Nat} (hd : 1 ≤ d) {M : mm_M} {q : (Unit ⊕ Nat) × mm_M} {o : mm_E} (h : mf_70 M = some q) (hA : mm_A (mm_Kr mm_wv) q o) : mm_Runs L xs d 70 (0, mm_ent (mm_ml 70) [.ref 13], [], M) o := by
  unfold mf_70 at h
  obtain ⟨d, rfl⟩ := mm_d1 (n := 0) hd
  show mm_Runs L xs (d + 1) 70 (0, [some (.ref 13)], [], M) o
  refine mm_Runs.seq (l := [(0, .aload_n 0, 1), (1, .aload_n 0, 1), (2, .getfield 18, 3), (5, .getfield 28, 3), (8, .putfield 32, 3), (11, .aload_n 0, 1), (12, .iconst 0, 1), (13, .putfield 33, 3), (16, .aload_n 0, 1), (17, .getfield 11, 3), (20, .iconst (-1), 1)]) (S2 := (21, [some (.ref 13)], [.int (-1 : Int32), .ref 14], (mm_pi (mm_pi M 13 6 (M.1 1 1)) 13 7 (0 : Int32)))) (by decide +kernel) (hO := mm_own_70) rfl ?_
  refine mm_R_call (v := mm_wv) h hA (k2 := 290) (as := [.ref 14, .int (-1 : Int32)]) (r := []) rfl (fun _ => rfl) (fun q hq o ho => ms_290 rfl (by omega) hq ho) (fun _ M1 h => ?_)
  show mm_Runs L xs (d + 1) 70 (24, [some (.ref 13)], [], M1) o
  cases h
  exact mm_R_retv rfl rfl hA
-- 73: PlainPacks$Finder.headOf(I)I (depth 0)
theorem mm_own_73 : mm_own 73 = 5 := rfl
set_option maxRecDepth 8000 in
set_option maxHeartbeats 4000000 in
theorem ms_73 {L : Nat} {xs : Nat → Int32} {d : Nat} (hd : 0 ≤ d) {v1 : Int32} {M : mm_M} {q : (Int32 ⊕ Nat) × mm_M} {o : mm_E} (h : mf_73 v1 M = some q) (hA : mm_A (mm_Kr mm_wi) q o) : mm_Runs L xs d 73 (0, mm_ent (mm_ml 73) [.ref 13, .int v1], [], M) o := by
  unfold mf_73 at h
  show mm_Runs L xs (d) 73 (0, [some (.ref 13), some (.int v1)], [], M) o
  refine mm_Runs.seq (l := [(0, .aload_n 0, 1), (1, .getfield 27, 3), (4, .iload_n 1, 1)]) (S2 := (5, [some (.ref 13), some (.int v1)], [.int v1, .ref 2], M)) (by decide +kernel) (hO := mm_own_73) rfl ?_
  obtain ⟨hb, h⟩ := mm_gd h
  refine mm_R_iald rfl rfl hb ?_
  refine mm_Runs.seq (l := [(6, .sipush 961, 3), (9, .imul, 1), (10, .aload_n 0, 1), (11, .getfield 27, 3), (14, .iload_n 1, 1), (15, .iconst 1, 1), (16, .iadd, 1)]) (S2 := (17, [some (.ref 13), some (.int v1)], [.int (v1 + (1 : Int32)), .ref 2, .int ((M.1 2 v1.toNatClampNeg) * (961 : Int32))], M)) (by decide +kernel) (hO := mm_own_73) rfl ?_
  obtain ⟨hb, h⟩ := mm_gd h
  refine mm_R_iald rfl rfl hb ?_
  refine mm_Runs.seq (l := [(18, .bipush 31, 2), (20, .imul, 1), (21, .iadd, 1), (22, .aload_n 0, 1), (23, .getfield 27, 3), (26, .iload_n 1, 1), (27, .iconst 2, 1), (28, .iadd, 1)]) (S2 := (29, [some (.ref 13), some (.int v1)], [.int (v1 + (2 : Int32)), .ref 2, .int (((M.1 2 v1.toNatClampNeg) * (961 : Int32)) + ((M.1 2 (v1 + (1 : Int32)).toNatClampNeg) * (31 : Int32)))], M)) (by decide +kernel) (hO := mm_own_73) rfl ?_
  obtain ⟨hb, h⟩ := mm_gd h
  refine mm_R_iald rfl rfl hb ?_
  refine mm_Runs.seq (l := [(30, .iadd, 1), (31, .sipush 4095, 3), (34, .iand, 1)]) (S2 := (35, [some (.ref 13), some (.int v1)], [.int (((((M.1 2 v1.toNatClampNeg) * (961 : Int32)) + ((M.1 2 (v1 + (1 : Int32)).toNatClampNeg) * (31 : Int32))) + (M.1 2 (v1 + (2 : Int32)).toNatClampNeg)) &&& (4095 : Int32))], M)) (by decide +kernel) (hO := mm_own_73) rfl ?_
  cases h
  exact mm_R_reti rfl rfl hA
-- 72: PlainPacks$Finder.enterTo(I)V (depth 1)
theorem mm_own_72 : mm_own 72 = 5 := rfl
def mp_72_0 (L : Nat) (xs : Nat → Int32) (d : Nat) (v1 : Int32) (M : mm_M) (o : mm_E) : Prop := ∀ z2 : Option Value, mm_Runs L xs d 72 (0, [some (.ref 13), some (.int v1), z2], [], M) o
def mp_72_68 (L : Nat) (xs : Nat → Int32) (d : Nat) (M : mm_M) (o : mm_E) : Prop := ∀ z0 z1 z2 : Option Value, mm_Runs L xs d 72 (68, [z0, z1, z2], [], M) o
set_option maxRecDepth 8000 in
set_option maxHeartbeats 4000000 in
theorem ms_72_b0 {L : Nat} {xs : Nat → Int32} {d : Nat} (hd : 1 ≤ d) {v1 : Int32} {M : mm_M} {q : (((Unit) ⊕ (Unit)) ⊕ Nat) × mm_M} {o : mm_E} (h : mf_72_b0 v1 M = some q) (hA : mm_A (mm_K2 (fun s M o => mp_72_0 L xs (d) v1 M o) (fun r M o => mp_72_68 L xs (d) M o)) q o) : mp_72_0 L xs d v1 M o := by
  unfold mf_72_b0 at h
  obtain ⟨d, rfl⟩ := mm_d1 (n := 0) hd
  intro z2
  show mm_Runs L xs (d + 1) 72 (0, [some (.ref 13), some (.int v1), z2], [], M) o
  refine mm_Runs.seq (l := [(0, .aload_n 0, 1), (1, .getfield 33, 3), (4, .iload_n 1, 1)]) (S2 := (5, [some (.ref 13), some (.int v1), z2], [.int v1, .int (M.1 13 7)], M)) (by decide +kernel) (hO := mm_own_72) rfl ?_
  refine mm_R_ige (t := 68) rfl rfl rfl (fun hc => ?_) (fun hc => ?_)
  · replace h := mm_ip hc h
    refine mm_Runs.seq (l := [(8, .aload_n 0, 1), (9, .getfield 33, 3), (12, .iconst 3, 1), (13, .iadd, 1), (14, .aload_n 0, 1), (15, .getfield 32, 3)]) (S2 := (18, [some (.ref 13), some (.int v1), z2], [.int (M.1 13 6), .int ((M.1 13 7) + (3 : Int32))], M)) (by decide +kernel) (hO := mm_own_72) rfl ?_
    refine mm_R_igt (t := 68) rfl rfl rfl (fun hc => ?_) (fun hc => ?_)
    · replace h := mm_ip hc h
      cases h
      exact (show mp_72_68 L xs (d + 1) M o from hA) (some (.ref 13)) (some (.int v1)) z2
    · replace h := mm_iq hc h
      refine mm_Runs.seq (l := [(21, .aload_n 0, 1), (22, .aload_n 0, 1), (23, .getfield 33, 3)]) (S2 := (26, [some (.ref 13), some (.int v1), z2], [.int (M.1 13 7), .ref 13], M)) (by decide +kernel) (hO := mm_own_72) rfl ?_
      refine mm_R_call (v := mm_wi) h hA (k2 := 73) (as := [.ref 13, .int (M.1 13 7)]) (r := []) rfl (fun _ => rfl) (fun q hq o ho => ms_73 (by omega) hq ho) (fun r1 M2 h => ?_)
      show mm_Runs L xs (d + 1) 72 (29, [some (.ref 13), some (.int v1), z2], [.int r1], M2) o
      refine mm_Runs.seq (l := [(29, .istore_n 2, 1), (30, .aload_n 0, 1), (31, .getfield 15, 3), (34, .aload_n 0, 1), (35, .getfield 33, 3), (38, .aload_n 0, 1), (39, .getfield 11, 3), (42, .iload_n 2, 1)]) (S2 := (43, [some (.ref 13), some (.int v1), some (.int r1)], [.int r1, .ref 14, .int (M2.1 13 7), .ref 15], M2)) (by decide +kernel) (hO := mm_own_72) rfl ?_
      obtain ⟨hb, h⟩ := mm_gd h
      refine mm_R_iald rfl rfl hb ?_
      obtain ⟨hb, h⟩ := mm_gd h
      refine mm_R_iast rfl rfl hb ?_
      refine mm_Runs.seq (l := [(45, .aload_n 0, 1), (46, .getfield 11, 3), (49, .iload_n 2, 1), (50, .aload_n 0, 1), (51, .getfield 33, 3)]) (S2 := (54, [some (.ref 13), some (.int v1), some (.int r1)], [.int (M2.1 13 7), .int r1, .ref 14], (mm_pi M2 15 (M2.1 13 7).toNatClampNeg (M2.1 14 r1.toNatClampNeg)))) (by decide +kernel) (hO := mm_own_72) rfl ?_
      obtain ⟨hb, h⟩ := mm_gd h
      refine mm_R_iast rfl rfl hb ?_
      refine mm_Runs.seq (l := [(55, .aload_n 0, 1), (56, .dup, 1), (57, .getfield 33, 3), (60, .iconst 1, 1), (61, .iadd, 1), (62, .putfield 33, 3), (65, .goto (-65), 3)]) (S2 := (0, [some (.ref 13), some (.int v1), some (.int r1)], [], (mm_pi (mm_pi (mm_pi M2 15 (M2.1 13 7).toNatClampNeg (M2.1 14 r1.toNatClampNeg)) 14 r1.toNatClampNeg (M2.1 13 7)) 13 7 ((M2.1 13 7) + (1 : Int32))))) (by decide +kernel) (hO := mm_own_72) rfl ?_
      cases h
      exact (show mp_72_0 L xs (d + 1) v1 (mm_pi (mm_pi (mm_pi M2 15 (M2.1 13 7).toNatClampNeg (M2.1 14 r1.toNatClampNeg)) 14 r1.toNatClampNeg (M2.1 13 7)) 13 7 ((M2.1 13 7) + (1 : Int32))) o from hA) (some (.int r1))
  · replace h := mm_iq hc h
    cases h
    exact (show mp_72_68 L xs (d + 1) M o from hA) (some (.ref 13)) (some (.int v1)) z2
theorem ms_72_L0 {L : Nat} {xs : Nat → Int32} {d : Nat} (hd : 1 ≤ d) {v1 : Int32} {β : Type} {K : β → mm_M → mm_E → Prop} {F : (Unit) → mm_M → mm_O β} {M : mm_M} {q : (β ⊕ Nat) × mm_M} {o : mm_E} (h : mm_B (mf_72_L0 v1 () M) F = some q) (hA : mm_A K q o) (hx : ∀ (r : (Unit)) (M2 : mm_M), F r M2 = some q → (fun r M o => mp_72_68 L xs (d) M o) r M2 o) : mp_72_0 L xs d v1 M o := by
  unfold mf_72_L0 at h
  exact mm_R_loop (step := (fun s M => mf_72_b0 v1 M)) (s := ()) (M := M) (P := (fun s M o => mp_72_0 L xs (d) v1 M o)) (X := (fun r M o => mp_72_68 L xs (d) M o)) h hA (fun s M q hq hA => ms_72_b0 (v1 := v1) (M := M) (q := q) hd hq hA) hx
set_option maxRecDepth 8000 in
set_option maxHeartbeats 4000000 in
theorem ms_72 {L : Nat} {xs : Nat → Int32} {d : Nat} (hd : 1 ≤ d) {v1 : Int32} {M : mm_M} {q : (Unit ⊕ Nat) × mm_M} {o : mm_E} (h : mf_72 v1 M = some q) (hA : mm_A (mm_Kr mm_wv) q o) : mm_Runs L xs d 72 (0, mm_ent (mm_ml 72) [.ref 13, .int v1], [], M) o := by
  unfold mf_72 at h
  obtain ⟨d, rfl⟩ := mm_d1 (n := 0) hd
  show mm_Runs L xs (d + 1) 72 (0, [some (.ref 13), some (.int v1), none], [], M) o
  have hp : mp_72_0 L xs (d + 1) v1 M o := by
    refine ms_72_L0 hd h hA (fun r2 M1 h => ?_)
    intro y3 y4 y5
    show mm_Runs L xs (d + 1) 72 (68, [y3, y4, y5], [], M1) o
    cases h
    exact mm_R_retv rfl rfl hA
  exact hp none
-- 74: PlainPacks$Finder.alike(III)I (depth 0)
theorem mm_own_74 : mm_own 74 = 5 := rfl
def mp_74_3 (L : Nat) (xs : Nat → Int32) (d : Nat) (v1 : Int32) (v2 : Int32) (v3 : Int32) (v4 : Int32) (M : mm_M) (o : mm_E) : Prop := mm_Runs L xs d 74 (3, [some (.ref 13), some (.int v1), some (.int v2), some (.int v3), some (.int v4)], [], M) o
def mp_74_36 (L : Nat) (xs : Nat → Int32) (d : Nat) (v4 : Int32) (M : mm_M) (o : mm_E) : Prop := ∀ z0 z1 z2 z3 : Option Value, mm_Runs L xs d 74 (36, [z0, z1, z2, z3, some (.int v4)], [], M) o
set_option maxRecDepth 8000 in
set_option maxHeartbeats 4000000 in
theorem ms_74_b3 {L : Nat} {xs : Nat → Int32} {d : Nat} (hd : 0 ≤ d) {v1 : Int32} {v2 : Int32} {v3 : Int32} {v4 : Int32} {M : mm_M} {q : (((Int32) ⊕ (Int32)) ⊕ Nat) × mm_M} {o : mm_E} (h : mf_74_b3 v1 v2 v3 v4 M = some q) (hA : mm_A (mm_K2 (fun s M o => mp_74_3 L xs (d) v1 v2 v3 s M o) (fun r M o => mp_74_36 L xs (d) r M o)) q o) : mp_74_3 L xs d v1 v2 v3 v4 M o := by
  unfold mf_74_b3 at h
  show mm_Runs L xs (d) 74 (3, [some (.ref 13), some (.int v1), some (.int v2), some (.int v3), some (.int v4)], [], M) o
  refine mm_Runs.seq (l := [(3, .iload 4, 2), (5, .iload_n 3, 1)]) (S2 := (6, [some (.ref 13), some (.int v1), some (.int v2), some (.int v3), some (.int v4)], [.int v3, .int v4], M)) (by decide +kernel) (hO := mm_own_74) rfl ?_
  refine mm_R_ige (t := 36) rfl rfl rfl (fun hc => ?_) (fun hc => ?_)
  · replace h := mm_ip hc h
    refine mm_Runs.seq (l := [(9, .aload_n 0, 1), (10, .getfield 27, 3), (13, .iload_n 1, 1), (14, .iload 4, 2), (16, .iadd, 1)]) (S2 := (17, [some (.ref 13), some (.int v1), some (.int v2), some (.int v3), some (.int v4)], [.int (v1 + v4), .ref 2], M)) (by decide +kernel) (hO := mm_own_74) rfl ?_
    obtain ⟨hb, h⟩ := mm_gd h
    refine mm_R_iald rfl rfl hb ?_
    refine mm_Runs.seq (l := [(18, .aload_n 0, 1), (19, .getfield 27, 3), (22, .iload_n 2, 1), (23, .iload 4, 2), (25, .iadd, 1)]) (S2 := (26, [some (.ref 13), some (.int v1), some (.int v2), some (.int v3), some (.int v4)], [.int (v2 + v4), .ref 2, .int (M.1 2 (v1 + v4).toNatClampNeg)], M)) (by decide +kernel) (hO := mm_own_74) rfl ?_
    obtain ⟨hb, h⟩ := mm_gd h
    refine mm_R_iald rfl rfl hb ?_
    refine mm_R_ine (t := 36) rfl rfl rfl (fun hc => ?_) (fun hc => ?_)
    · replace h := mm_ip hc h
      refine mm_Runs.seq (l := [(30, .iinc 4 1, 3), (33, .goto (-30), 3)]) (S2 := (3, [some (.ref 13), some (.int v1), some (.int v2), some (.int v3), some (.int (v4 + (1 : Int32)))], [], M)) (by decide +kernel) (hO := mm_own_74) rfl ?_
      cases h
      exact (show mp_74_3 L xs (d) v1 v2 v3 (v4 + (1 : Int32)) M o from hA)
    · replace h := mm_iq hc h
      cases h
      exact (show mp_74_36 L xs (d) v4 M o from hA) (some (.ref 13)) (some (.int v1)) (some (.int v2)) (some (.int v3))
  · replace h := mm_iq hc h
    cases h
    exact (show mp_74_36 L xs (d) v4 M o from hA) (some (.ref 13)) (some (.int v1)) (some (.int v2)) (some (.int v3))
theorem ms_74_L3 {L : Nat} {xs : Nat → Int32} {d : Nat} (hd : 0 ≤ d) {v1 : Int32} {v2 : Int32} {v3 : Int32} {v4 : Int32} {β : Type} {K : β → mm_M → mm_E → Prop} {F : (Int32) → mm_M → mm_O β} {M : mm_M} {q : (β ⊕ Nat) × mm_M} {o : mm_E} (h : mm_B (mf_74_L3 v1 v2 v3 v4 M) F = some q) (hA : mm_A K q o) (hx : ∀ (r : (Int32)) (M2 : mm_M), F r M2 = some q → (fun r M o => mp_74_36 L xs (d) r M o) r M2 o) : mp_74_3 L xs d v1 v2 v3 v4 M o := by
  unfold mf_74_L3 at h
  exact mm_R_loop (step := (fun s M => mf_74_b3 v1 v2 v3 s M)) (s := v4) (M := M) (P := (fun s M o => mp_74_3 L xs (d) v1 v2 v3 s M o)) (X := (fun r M o => mp_74_36 L xs (d) r M o)) h hA (fun s M q hq hA => ms_74_b3 (v1 := v1) (v2 := v2) (v3 := v3) (v4 := s) (M := M) (q := q) hd hq hA) hx
set_option maxRecDepth 8000 in
set_option maxHeartbeats 4000000 in
theorem ms_74 {L : Nat} {xs : Nat → Int32} {d : Nat} (hd : 0 ≤ d) {v1 : Int32} {v2 : Int32} {v3 : Int32} {M : mm_M} {q : (Int32 ⊕ Nat) × mm_M} {o : mm_E} (h : mf_74 v1 v2 v3 M = some q) (hA : mm_A (mm_Kr mm_wi) q o) : mm_Runs L xs d 74 (0, mm_ent (mm_ml 74) [.ref 13, .int v1, .int v2, .int v3], [], M) o := by
  unfold mf_74 at h
  show mm_Runs L xs (d) 74 (0, [some (.ref 13), some (.int v1), some (.int v2), some (.int v3), none], [], M) o
  refine mm_Runs.seq (l := [(0, .iconst 0, 1), (1, .istore 4, 2)]) (S2 := (3, [some (.ref 13), some (.int v1), some (.int v2), some (.int v3), some (.int (0 : Int32))], [], M)) (by decide +kernel) (hO := mm_own_74) rfl ?_
  have hp : mp_74_3 L xs (d) v1 v2 v3 (0 : Int32) M o := by
    refine ms_74_L3 hd h hA (fun r2 M1 h => ?_)
    intro y3 y4 y5 y6
    show mm_Runs L xs (d) 74 (36, [y3, y4, y5, y6, some (.int r2)], [], M1) o
    refine mm_Runs.seq (l := [(36, .iload 4, 2)]) (S2 := (38, [y3, y4, y5, y6, some (.int r2)], [.int r2], M1)) (by decide +kernel) (hO := mm_own_74) rfl ?_
    cases h
    exact mm_R_reti rfl rfl hA
  exact hp
-- 71: PlainPacks$Finder.find(II)V (depth 2)
theorem mm_own_71 : mm_own 71 = 5 := rfl
def mp_71_47 (L : Nat) (xs : Nat → Int32) (d : Nat) (v1 : Int32) (v3 : Int32) (v4 : Int32) (v5 : Int32) (M : mm_M) (o : mm_E) : Prop := ∀ z2 z6 : Option Value, mm_Runs L xs d 71 (47, [some (.ref 13), some (.int v1), z2, some (.int v3), some (.int v4), some (.int v5), z6], [], M) o
def mp_71_149 (L : Nat) (xs : Nat → Int32) (d : Nat) (M : mm_M) (o : mm_E) : Prop := ∀ z0 z1 z2 z3 z4 z5 z6 : Option Value, mm_Runs L xs d 71 (149, [z0, z1, z2, z3, z4, z5, z6], [], M) o
def mp_71_134 (L : Nat) (xs : Nat → Int32) (d : Nat) (v1 : Int32) (v3 : Int32) (v4 : Int32) (v5 : Int32) (M : mm_M) (o : mm_E) : Prop := ∀ z2 z6 : Option Value, mm_Runs L xs d 71 (134, [some (.ref 13), some (.int v1), z2, some (.int v3), some (.int v4), some (.int v5), z6], [], M) o
set_option maxRecDepth 8000 in
set_option maxHeartbeats 4000000 in
theorem ms_71_j134 {L : Nat} {xs : Nat → Int32} {d : Nat} (hd : 2 ≤ d) {v1 : Int32} {v3 : Int32} {v4 : Int32} {v5 : Int32} {M : mm_M} {q : (((Int32 × Int32) ⊕ (Unit)) ⊕ Nat) × mm_M} {o : mm_E} (h : mf_71_j134 v1 v3 v4 v5 M = some q) (hA : mm_A (mm_K2 (fun s M o => mp_71_47 L xs (d) v1 v3 s.1 s.2 M o) (fun r M o => mp_71_149 L xs (d) M o)) q o) : mp_71_134 L xs d v1 v3 v4 v5 M o := by
  unfold mf_71_j134 at h
  obtain ⟨d, rfl⟩ := mm_d1 (n := 1) hd
  intro z2 z6
  show mm_Runs L xs (d + 1) 71 (134, [some (.ref 13), some (.int v1), z2, some (.int v3), some (.int v4), some (.int v5), z6], [], M) o
  refine mm_Runs.seq (l := [(134, .aload_n 0, 1), (135, .getfield 15, 3), (138, .iload 4, 2)]) (S2 := (140, [some (.ref 13), some (.int v1), z2, some (.int v3), some (.int v4), some (.int v5), z6], [.int v4, .ref 15], M)) (by decide +kernel) (hO := mm_own_71) rfl ?_
  obtain ⟨hb, h⟩ := mm_gd h
  refine mm_R_iald rfl rfl hb ?_
  refine mm_Runs.seq (l := [(141, .istore 4, 2), (143, .iinc 5 1, 3), (146, .goto (-99), 3)]) (S2 := (47, [some (.ref 13), some (.int v1), z2, some (.int v3), some (.int (M.1 15 v4.toNatClampNeg)), some (.int (v5 + (1 : Int32))), z6], [], M)) (by decide +kernel) (hO := mm_own_71) rfl ?_
  cases h
  exact (show mp_71_47 L xs (d + 1) v1 v3 (M.1 15 v4.toNatClampNeg) (v5 + (1 : Int32)) M o from hA) z2 z6
set_option maxRecDepth 8000 in
set_option maxHeartbeats 4000000 in
theorem ms_71_b47 {L : Nat} {xs : Nat → Int32} {d : Nat} (hd : 2 ≤ d) {v1 : Int32} {v3 : Int32} {v4 : Int32} {v5 : Int32} {M : mm_M} {q : (((Int32 × Int32) ⊕ (Unit)) ⊕ Nat) × mm_M} {o : mm_E} (h : mf_71_b47 v1 v3 v4 v5 M = some q) (hA : mm_A (mm_K2 (fun s M o => mp_71_47 L xs (d) v1 v3 s.1 s.2 M o) (fun r M o => mp_71_149 L xs (d) M o)) q o) : mp_71_47 L xs d v1 v3 v4 v5 M o := by
  unfold mf_71_b47 at h
  obtain ⟨d, rfl⟩ := mm_d1 (n := 1) hd
  intro z2 z6
  show mm_Runs L xs (d + 1) 71 (47, [some (.ref 13), some (.int v1), z2, some (.int v3), some (.int v4), some (.int v5), z6], [], M) o
  refine mm_Runs.seq (l := [(47, .iload 5, 2), (49, .aload_n 0, 1), (50, .getfield 32, 3)]) (S2 := (53, [some (.ref 13), some (.int v1), z2, some (.int v3), some (.int v4), some (.int v5), z6], [.int (M.1 13 6), .int v5], M)) (by decide +kernel) (hO := mm_own_71) rfl ?_
  refine mm_R_ige (t := 149) rfl rfl rfl (fun hc => ?_) (fun hc => ?_)
  · replace h := mm_ip hc h
    refine mm_Runs.seq (l := [(56, .iload 4, 2)]) (S2 := (58, [some (.ref 13), some (.int v1), z2, some (.int v3), some (.int v4), some (.int v5), z6], [.int v4], M)) (by decide +kernel) (hO := mm_own_71) rfl ?_
    refine mm_R_zlt (t := 149) rfl rfl rfl (fun hc => ?_) (fun hc => ?_)
    · replace h := mm_ip hc h
      cases h
      exact (show mp_71_149 L xs (d + 1) M o from hA) (some (.ref 13)) (some (.int v1)) z2 (some (.int v3)) (some (.int v4)) (some (.int v5)) z6
    · replace h := mm_iq hc h
      refine mm_Runs.seq (l := [(61, .aload_n 0, 1), (62, .getfield 42, 3), (65, .iload_n 3, 1)]) (S2 := (66, [some (.ref 13), some (.int v1), z2, some (.int v3), some (.int v4), some (.int v5), z6], [.int v3, .int (M.1 13 0)], M)) (by decide +kernel) (hO := mm_own_71) rfl ?_
      refine mm_R_ige (t := 149) rfl rfl rfl (fun hc => ?_) (fun hc => ?_)
      · replace h := mm_ip hc h
        refine mm_Runs.seq (l := [(69, .aload_n 0, 1), (70, .getfield 27, 3), (73, .iload 4, 2), (75, .aload_n 0, 1), (76, .getfield 42, 3), (79, .iadd, 1)]) (S2 := (80, [some (.ref 13), some (.int v1), z2, some (.int v3), some (.int v4), some (.int v5), z6], [.int (v4 + (M.1 13 0)), .ref 2], M)) (by decide +kernel) (hO := mm_own_71) rfl ?_
        obtain ⟨hb, h⟩ := mm_gd h
        refine mm_R_iald rfl rfl hb ?_
        refine mm_Runs.seq (l := [(81, .aload_n 0, 1), (82, .getfield 27, 3), (85, .iload_n 1, 1), (86, .aload_n 0, 1), (87, .getfield 42, 3), (90, .iadd, 1)]) (S2 := (91, [some (.ref 13), some (.int v1), z2, some (.int v3), some (.int v4), some (.int v5), z6], [.int (v1 + (M.1 13 0)), .ref 2, .int (M.1 2 (v4 + (M.1 13 0)).toNatClampNeg)], M)) (by decide +kernel) (hO := mm_own_71) rfl ?_
        obtain ⟨hb, h⟩ := mm_gd h
        refine mm_R_iald rfl rfl hb ?_
        refine mm_R_ine (t := 134) rfl rfl rfl (fun hc => ?_) (fun hc => ?_)
        · replace h := mm_ip hc h
          refine mm_Runs.seq (l := [(95, .aload_n 0, 1), (96, .iload 4, 2), (98, .iload_n 1, 1), (99, .iload_n 3, 1)]) (S2 := (100, [some (.ref 13), some (.int v1), z2, some (.int v3), some (.int v4), some (.int v5), z6], [.int v3, .int v1, .int v4, .ref 13], M)) (by decide +kernel) (hO := mm_own_71) rfl ?_
          refine mm_R_call (v := mm_wi) h hA (k2 := 74) (as := [.ref 13, .int v4, .int v1, .int v3]) (r := []) rfl (fun _ => rfl) (fun q hq o ho => ms_74 (by omega) hq ho) (fun r1 M2 h => ?_)
          show mm_Runs L xs (d + 1) 71 (103, [some (.ref 13), some (.int v1), z2, some (.int v3), some (.int v4), some (.int v5), z6], [.int r1], M2) o
          refine mm_Runs.seq (l := [(103, .istore 6, 2), (105, .iload 6, 2), (107, .iconst 3, 1)]) (S2 := (108, [some (.ref 13), some (.int v1), z2, some (.int v3), some (.int v4), some (.int v5), some (.int r1)], [.int (3 : Int32), .int r1], M2)) (by decide +kernel) (hO := mm_own_71) rfl ?_
          refine mm_R_ilt (t := 134) rfl rfl rfl (fun hc => ?_) (fun hc => ?_)
          · replace h := mm_ip hc h
            exact (ms_71_j134 hd h hA : mp_71_134 L xs (d + 1) v1 v3 v4 v5 M2 o) z2 (some (.int r1))
          · replace h := mm_iq hc h
            refine mm_Runs.seq (l := [(111, .iload 6, 2), (113, .aload_n 0, 1), (114, .getfield 42, 3)]) (S2 := (117, [some (.ref 13), some (.int v1), z2, some (.int v3), some (.int v4), some (.int v5), some (.int r1)], [.int (M2.1 13 0), .int r1], M2)) (by decide +kernel) (hO := mm_own_71) rfl ?_
            refine mm_R_ile (t := 134) rfl rfl rfl (fun hc => ?_) (fun hc => ?_)
            · replace h := mm_ip hc h
              refine mm_Runs.seq (l := [(120, .aload_n 0, 1), (121, .iload 6, 2), (123, .putfield 42, 3), (126, .aload_n 0, 1), (127, .iload_n 1, 1), (128, .iload 4, 2), (130, .isub, 1), (131, .putfield 45, 3)]) (S2 := (134, [some (.ref 13), some (.int v1), z2, some (.int v3), some (.int v4), some (.int v5), some (.int r1)], [], (mm_pi (mm_pi M2 13 0 r1) 13 1 (v1 - v4)))) (by decide +kernel) (hO := mm_own_71) rfl ?_
              exact (ms_71_j134 hd h hA : mp_71_134 L xs (d + 1) v1 v3 v4 v5 (mm_pi (mm_pi M2 13 0 r1) 13 1 (v1 - v4)) o) z2 (some (.int r1))
            · replace h := mm_iq hc h
              exact (ms_71_j134 hd h hA : mp_71_134 L xs (d + 1) v1 v3 v4 v5 M2 o) z2 (some (.int r1))
        · replace h := mm_iq hc h
          exact (ms_71_j134 hd h hA : mp_71_134 L xs (d + 1) v1 v3 v4 v5 M o) z2 z6
      · replace h := mm_iq hc h
        cases h
        exact (show mp_71_149 L xs (d + 1) M o from hA) (some (.ref 13)) (some (.int v1)) z2 (some (.int v3)) (some (.int v4)) (some (.int v5)) z6
  · replace h := mm_iq hc h
    cases h
    exact (show mp_71_149 L xs (d + 1) M o from hA) (some (.ref 13)) (some (.int v1)) z2 (some (.int v3)) (some (.int v4)) (some (.int v5)) z6
theorem ms_71_L47 {L : Nat} {xs : Nat → Int32} {d : Nat} (hd : 2 ≤ d) {v1 : Int32} {v3 : Int32} {v4 : Int32} {v5 : Int32} {β : Type} {K : β → mm_M → mm_E → Prop} {F : (Unit) → mm_M → mm_O β} {M : mm_M} {q : (β ⊕ Nat) × mm_M} {o : mm_E} (h : mm_B (mf_71_L47 v1 v3 (v4, v5) M) F = some q) (hA : mm_A K q o) (hx : ∀ (r : (Unit)) (M2 : mm_M), F r M2 = some q → (fun r M o => mp_71_149 L xs (d) M o) r M2 o) : mp_71_47 L xs d v1 v3 v4 v5 M o := by
  unfold mf_71_L47 at h
  exact mm_R_loop (step := (fun s M => mf_71_b47 v1 v3 s.1 s.2 M)) (s := (v4, v5)) (M := M) (P := (fun s M o => mp_71_47 L xs (d) v1 v3 s.1 s.2 M o)) (X := (fun r M o => mp_71_149 L xs (d) M o)) h hA (fun s M q hq hA => ms_71_b47 (v1 := v1) (v3 := v3) (v4 := s.1) (v5 := s.2) (M := M) (q := q) hd hq hA) hx
set_option maxRecDepth 8000 in
set_option maxHeartbeats 4000000 in
theorem ms_71 {L : Nat} {xs : Nat → Int32} {d : Nat} (hd : 2 ≤ d) {v1 : Int32} {v2 : Int32} {M : mm_M} {q : (Unit ⊕ Nat) × mm_M} {o : mm_E} (h : mf_71 v1 v2 M = some q) (hA : mm_A (mm_Kr mm_wv) q o) : mm_Runs L xs d 71 (0, mm_ent (mm_ml 71) [.ref 13, .int v1, .int v2], [], M) o := by
  unfold mf_71 at h
  obtain ⟨d, rfl⟩ := mm_d1 (n := 1) hd
  show mm_Runs L xs (d + 1) 71 (0, [some (.ref 13), some (.int v1), some (.int v2), none, none, none, none], [], M) o
  refine mm_Runs.seq (l := [(0, .aload_n 0, 1), (1, .iconst 0, 1), (2, .putfield 42, 3), (5, .aload_n 0, 1), (6, .iconst 0, 1), (7, .putfield 45, 3), (10, .iload_n 2, 1), (11, .aload_n 0, 1), (12, .getfield 32, 3), (15, .iload_n 1, 1), (16, .isub, 1)]) (S2 := (17, [some (.ref 13), some (.int v1), some (.int v2), none, none, none, none], [.int ((M.1 13 6) - v1), .int v2], (mm_pi (mm_pi M 13 0 (0 : Int32)) 13 1 (0 : Int32)))) (by decide +kernel) (hO := mm_own_71) rfl ?_
  refine mm_R_intr (st2 := [.int (mm_min v2 ((M.1 13 6) - v1))]) (M2 := (mm_pi (mm_pi M 13 0 (0 : Int32)) 13 1 (0 : Int32))) rfl rfl (by omega) ?_
  refine mm_Runs.seq (l := [(20, .istore_n 3, 1), (21, .iload_n 3, 1), (22, .iconst 3, 1)]) (S2 := (23, [some (.ref 13), some (.int v1), some (.int v2), some (.int (mm_min v2 ((M.1 13 6) - v1))), none, none, none], [.int (3 : Int32), .int (mm_min v2 ((M.1 13 6) - v1))], (mm_pi (mm_pi M 13 0 (0 : Int32)) 13 1 (0 : Int32)))) (by decide +kernel) (hO := mm_own_71) rfl ?_
  refine mm_R_ige (t := 27) rfl rfl rfl (fun hc => ?_) (fun hc => ?_)
  · replace h := mm_ip hc h
    cases h
    exact mm_R_retv rfl rfl hA
  · replace h := mm_iq hc h
    refine mm_Runs.seq (l := [(27, .aload_n 0, 1), (28, .iload_n 1, 1)]) (S2 := (29, [some (.ref 13), some (.int v1), some (.int v2), some (.int (mm_min v2 ((M.1 13 6) - v1))), none, none, none], [.int v1, .ref 13], (mm_pi (mm_pi M 13 0 (0 : Int32)) 13 1 (0 : Int32)))) (by decide +kernel) (hO := mm_own_71) rfl ?_
    refine mm_R_call (v := mm_wv) h hA (k2 := 72) (as := [.ref 13, .int v1]) (r := []) rfl (fun _ => rfl) (fun q hq o ho => ms_72 (by omega) hq ho) (fun _ M1 h => ?_)
    show mm_Runs L xs (d + 1) 71 (32, [some (.ref 13), some (.int v1), some (.int v2), some (.int (mm_min v2 ((M.1 13 6) - v1))), none, none, none], [], M1) o
    refine mm_Runs.seq (l := [(32, .aload_n 0, 1), (33, .getfield 11, 3), (36, .aload_n 0, 1), (37, .iload_n 1, 1)]) (S2 := (38, [some (.ref 13), some (.int v1), some (.int v2), some (.int (mm_min v2 ((M.1 13 6) - v1))), none, none, none], [.int v1, .ref 13, .ref 14], M1)) (by decide +kernel) (hO := mm_own_71) rfl ?_
    refine mm_R_call (v := mm_wi) h hA (k2 := 73) (as := [.ref 13, .int v1]) (r := [.ref 14]) rfl (fun _ => rfl) (fun q hq o ho => ms_73 (by omega) hq ho) (fun r2 M3 h => ?_)
    show mm_Runs L xs (d + 1) 71 (41, [some (.ref 13), some (.int v1), some (.int v2), some (.int (mm_min v2 ((M.1 13 6) - v1))), none, none, none], [.int r2, .ref 14], M3) o
    obtain ⟨hb, h⟩ := mm_gd h
    refine mm_R_iald rfl rfl hb ?_
    refine mm_Runs.seq (l := [(42, .istore 4, 2), (44, .iconst 0, 1), (45, .istore 5, 2)]) (S2 := (47, [some (.ref 13), some (.int v1), some (.int v2), some (.int (mm_min v2 ((M.1 13 6) - v1))), some (.int (M3.1 14 r2.toNatClampNeg)), some (.int (0 : Int32)), none], [], M3)) (by decide +kernel) (hO := mm_own_71) rfl ?_
    have hp : mp_71_47 L xs (d + 1) v1 (mm_min v2 ((M.1 13 6) - v1)) (M3.1 14 r2.toNatClampNeg) (0 : Int32) M3 o := by
      refine ms_71_L47 hd h hA (fun r5 M4 h => ?_)
      intro y6 y7 y8 y9 y10 y11 y12
      show mm_Runs L xs (d + 1) 71 (149, [y6, y7, y8, y9, y10, y11, y12], [], M4) o
      cases h
      exact mm_R_retv rfl rfl hA
    exact hp (some (.int v2)) none
-- 95: PlainPacks$Blocks.lengthExtra(I)I (depth 1)
theorem mm_own_95 : mm_own 95 = 6 := rfl
set_option maxRecDepth 8000 in
set_option maxHeartbeats 4000000 in
theorem ms_95 {L : Nat} {xs : Nat → Int32} {d : Nat} (hd : 1 ≤ d) {v0 : Int32} {M : mm_M} {q : (Int32 ⊕ Nat) × mm_M} {o : mm_E} (h : mf_95 v0 M = some q) (hA : mm_A (mm_Kr mm_wi) q o) : mm_Runs L xs d 95 (0, mm_ent (mm_ml 95) [.int v0], [], M) o := by
  unfold mf_95 at h
  obtain ⟨d, rfl⟩ := mm_d1 (n := 0) hd
  show mm_Runs L xs (d + 1) 95 (0, [some (.int v0), none], [], M) o
  refine mm_Runs.seq (l := [(0, .iload_n 0, 1), (1, .iconst 3, 1), (2, .isub, 1), (3, .istore_n 1, 1), (4, .iload_n 1, 1), (5, .bipush 8, 2)]) (S2 := (7, [some (.int v0), some (.int (v0 - (3 : Int32)))], [.int (8 : Int32), .int (v0 - (3 : Int32))], M)) (by decide +kernel) (hO := mm_own_95) rfl ?_
  refine mm_R_ilt (t := 17) rfl rfl rfl (fun hc => ?_) (fun hc => ?_)
  · replace h := mm_ip hc h
    refine mm_Runs.seq (l := [(17, .iconst 0, 1), (18, .goto 9, 3)]) (S2 := (27, [some (.int v0), some (.int (v0 - (3 : Int32)))], [.int (0 : Int32)], M)) (by decide +kernel) (hO := mm_own_95) rfl ?_
    cases h
    exact mm_R_reti rfl rfl hA
  · replace h := mm_iq hc h
    refine mm_Runs.seq (l := [(10, .iload_n 0, 1), (11, .sipush 258, 3)]) (S2 := (14, [some (.int v0), some (.int (v0 - (3 : Int32)))], [.int (258 : Int32), .int v0], M)) (by decide +kernel) (hO := mm_own_95) rfl ?_
    refine mm_R_ine (t := 21) rfl rfl rfl (fun hc => ?_) (fun hc => ?_)
    · replace h := mm_ip hc h
      refine mm_Runs.seq (l := [(17, .iconst 0, 1), (18, .goto 9, 3)]) (S2 := (27, [some (.int v0), some (.int (v0 - (3 : Int32)))], [.int (0 : Int32)], M)) (by decide +kernel) (hO := mm_own_95) rfl ?_
      cases h
      exact mm_R_reti rfl rfl hA
    · replace h := mm_iq hc h
      refine mm_Runs.seq (l := [(21, .iload_n 1, 1)]) (S2 := (22, [some (.int v0), some (.int (v0 - (3 : Int32)))], [.int (v0 - (3 : Int32))], M)) (by decide +kernel) (hO := mm_own_95) rfl ?_
      refine mm_R_call (v := mm_wi) h hA (k2 := 34) (as := [.int (v0 - (3 : Int32))]) (r := []) rfl (fun _ => rfl) (fun q hq o ho => ms_34 (by omega) hq ho) (fun r1 M2 h => ?_)
      show mm_Runs L xs (d + 1) 95 (25, [some (.int v0), some (.int (v0 - (3 : Int32)))], [.int r1], M2) o
      refine mm_Runs.seq (l := [(25, .iconst 2, 1), (26, .isub, 1)]) (S2 := (27, [some (.int v0), some (.int (v0 - (3 : Int32)))], [.int (r1 - (2 : Int32))], M2)) (by decide +kernel) (hO := mm_own_95) rfl ?_
      cases h
      exact mm_R_reti rfl rfl hA
-- 94: PlainPacks$Blocks.letterOf(I)I (depth 2)
theorem mm_own_94 : mm_own 94 = 6 := rfl
set_option maxRecDepth 8000 in
set_option maxHeartbeats 4000000 in
theorem ms_94 {L : Nat} {xs : Nat → Int32} {d : Nat} (hd : 2 ≤ d) {v0 : Int32} {M : mm_M} {q : (Int32 ⊕ Nat) × mm_M} {o : mm_E} (h : mf_94 v0 M = some q) (hA : mm_A (mm_Kr mm_wi) q o) : mm_Runs L xs d 94 (0, mm_ent (mm_ml 94) [.int v0], [], M) o := by
  unfold mf_94 at h
  obtain ⟨d, rfl⟩ := mm_d1 (n := 1) hd
  show mm_Runs L xs (d + 1) 94 (0, [some (.int v0), none, none], [], M) o
  refine mm_Runs.seq (l := [(0, .iload_n 0, 1), (1, .sipush 258, 3)]) (S2 := (4, [some (.int v0), none, none], [.int (258 : Int32), .int v0], M)) (by decide +kernel) (hO := mm_own_94) rfl ?_
  refine mm_R_ine (t := 11) rfl rfl rfl (fun hc => ?_) (fun hc => ?_)
  · replace h := mm_ip hc h
    refine mm_Runs.seq (l := [(7, .sipush 285, 3)]) (S2 := (10, [some (.int v0), none, none], [.int (285 : Int32)], M)) (by decide +kernel) (hO := mm_own_94) rfl ?_
    cases h
    exact mm_R_reti rfl rfl hA
  · replace h := mm_iq hc h
    refine mm_Runs.seq (l := [(11, .iload_n 0, 1), (12, .iconst 3, 1), (13, .isub, 1), (14, .istore_n 1, 1), (15, .iload_n 0, 1)]) (S2 := (16, [some (.int v0), some (.int (v0 - (3 : Int32))), none], [.int v0], M)) (by decide +kernel) (hO := mm_own_94) rfl ?_
    refine mm_R_call (v := mm_wi) h hA (k2 := 95) (as := [.int v0]) (r := []) rfl (fun _ => rfl) (fun q hq o ho => ms_95 (by omega) hq ho) (fun r1 M2 h => ?_)
    show mm_Runs L xs (d + 1) 94 (19, [some (.int v0), some (.int (v0 - (3 : Int32))), none], [.int r1], M2) o
    refine mm_Runs.seq (l := [(19, .istore_n 2, 1), (20, .iload_n 1, 1), (21, .iconst 4, 1)]) (S2 := (22, [some (.int v0), some (.int (v0 - (3 : Int32))), some (.int r1)], [.int (4 : Int32), .int (v0 - (3 : Int32))], M2)) (by decide +kernel) (hO := mm_own_94) rfl ?_
    refine mm_R_ige (t := 33) rfl rfl rfl (fun hc => ?_) (fun hc => ?_)
    · replace h := mm_ip hc h
      refine mm_Runs.seq (l := [(25, .sipush 257, 3), (28, .iload_n 1, 1), (29, .iadd, 1), (30, .goto 14, 3)]) (S2 := (44, [some (.int v0), some (.int (v0 - (3 : Int32))), some (.int r1)], [.int ((257 : Int32) + (v0 - (3 : Int32)))], M2)) (by decide +kernel) (hO := mm_own_94) rfl ?_
      cases h
      exact mm_R_reti rfl rfl hA
    · replace h := mm_iq hc h
      refine mm_Runs.seq (l := [(33, .sipush 257, 3), (36, .iconst 4, 1), (37, .iload_n 2, 1), (38, .imul, 1), (39, .iadd, 1), (40, .iload_n 1, 1), (41, .iload_n 2, 1), (42, .ishr, 1), (43, .iadd, 1)]) (S2 := (44, [some (.int v0), some (.int (v0 - (3 : Int32))), some (.int r1)], [.int (((257 : Int32) + ((4 : Int32) * r1)) + (mm_shr (v0 - (3 : Int32)) r1))], M2)) (by decide +kernel) (hO := mm_own_94) rfl ?_
      cases h
      exact mm_R_reti rfl rfl hA
-- 63: PlainPacks$Writer.code(II)V (depth 2)
theorem mm_own_63 : mm_own 63 = 3 := rfl
def mp_63_4 (L : Nat) (xs : Nat → Int32) (d : Nat) (v1 : Int32) (v3 : Int32) (M : mm_M) (o : mm_E) : Prop := ∀ z2 : Option Value, mm_Runs L xs d 63 (4, [some (.ref 5), some (.int v1), z2, some (.int v3)], [], M) o
def mp_63_23 (L : Nat) (xs : Nat → Int32) (d : Nat) (M : mm_M) (o : mm_E) : Prop := ∀ z0 z1 z2 z3 : Option Value, mm_Runs L xs d 63 (23, [z0, z1, z2, z3], [], M) o
set_option maxRecDepth 8000 in
set_option maxHeartbeats 4000000 in
theorem ms_63_b4 {L : Nat} {xs : Nat → Int32} {d : Nat} (hd : 2 ≤ d) {v1 : Int32} {v3 : Int32} {M : mm_M} {q : (((Int32) ⊕ (Unit)) ⊕ Nat) × mm_M} {o : mm_E} (h : mf_63_b4 v1 v3 M = some q) (hA : mm_A (mm_K2 (fun s M o => mp_63_4 L xs (d) v1 s M o) (fun r M o => mp_63_23 L xs (d) M o)) q o) : mp_63_4 L xs d v1 v3 M o := by
  unfold mf_63_b4 at h
  obtain ⟨d, rfl⟩ := mm_d1 (n := 1) hd
  intro z2
  show mm_Runs L xs (d + 1) 63 (4, [some (.ref 5), some (.int v1), z2, some (.int v3)], [], M) o
  refine mm_Runs.seq (l := [(4, .iload_n 3, 1)]) (S2 := (5, [some (.ref 5), some (.int v1), z2, some (.int v3)], [.int v3], M)) (by decide +kernel) (hO := mm_own_63) rfl ?_
  refine mm_R_zlt (t := 23) rfl rfl rfl (fun hc => ?_) (fun hc => ?_)
  · replace h := mm_ip hc h
    cases h
    exact (show mp_63_23 L xs (d + 1) M o from hA) (some (.ref 5)) (some (.int v1)) z2 (some (.int v3))
  · replace h := mm_iq hc h
    refine mm_Runs.seq (l := [(8, .aload_n 0, 1), (9, .iload_n 1, 1), (10, .iload_n 3, 1), (11, .ishr, 1), (12, .iconst 1, 1), (13, .iand, 1)]) (S2 := (14, [some (.ref 5), some (.int v1), z2, some (.int v3)], [.int ((mm_shr v1 v3) &&& (1 : Int32)), .ref 5], M)) (by decide +kernel) (hO := mm_own_63) rfl ?_
    refine mm_R_call (v := mm_wv) h hA (k2 := 61) (as := [.ref 5, .int ((mm_shr v1 v3) &&& (1 : Int32))]) (r := []) rfl (fun _ => rfl) (fun q hq o ho => ms_61 (by omega) hq ho) (fun _ M1 h => ?_)
    show mm_Runs L xs (d + 1) 63 (17, [some (.ref 5), some (.int v1), z2, some (.int v3)], [], M1) o
    refine mm_Runs.seq (l := [(17, .iinc 3 (-1), 3), (20, .goto (-16), 3)]) (S2 := (4, [some (.ref 5), some (.int v1), (mm_no2 z2), some (.int (v3 + (-1 : Int32)))], [], M1)) (by decide +kernel) (hO := mm_own_63) rfl ?_
    cases h
    exact (show mp_63_4 L xs (d + 1) v1 (v3 + (-1 : Int32)) M1 o from hA) ((mm_no2 z2))
theorem ms_63_L4 {L : Nat} {xs : Nat → Int32} {d : Nat} (hd : 2 ≤ d) {v1 : Int32} {v3 : Int32} {β : Type} {K : β → mm_M → mm_E → Prop} {F : (Unit) → mm_M → mm_O β} {M : mm_M} {q : (β ⊕ Nat) × mm_M} {o : mm_E} (h : mm_B (mf_63_L4 v1 v3 M) F = some q) (hA : mm_A K q o) (hx : ∀ (r : (Unit)) (M2 : mm_M), F r M2 = some q → (fun r M o => mp_63_23 L xs (d) M o) r M2 o) : mp_63_4 L xs d v1 v3 M o := by
  unfold mf_63_L4 at h
  exact mm_R_loop (step := (fun s M => mf_63_b4 v1 s M)) (s := v3) (M := M) (P := (fun s M o => mp_63_4 L xs (d) v1 s M o)) (X := (fun r M o => mp_63_23 L xs (d) M o)) h hA (fun s M q hq hA => ms_63_b4 (v1 := v1) (v3 := s) (M := M) (q := q) hd hq hA) hx
set_option maxRecDepth 8000 in
set_option maxHeartbeats 4000000 in
theorem ms_63 {L : Nat} {xs : Nat → Int32} {d : Nat} (hd : 2 ≤ d) {v1 : Int32} {v2 : Int32} {M : mm_M} {q : (Unit ⊕ Nat) × mm_M} {o : mm_E} (h : mf_63 v1 v2 M = some q) (hA : mm_A (mm_Kr mm_wv) q o) : mm_Runs L xs d 63 (0, mm_ent (mm_ml 63) [.ref 5, .int v1, .int v2], [], M) o := by
  unfold mf_63 at h
  obtain ⟨d, rfl⟩ := mm_d1 (n := 1) hd
  show mm_Runs L xs (d + 1) 63 (0, [some (.ref 5), some (.int v1), some (.int v2), none], [], M) o
  refine mm_Runs.seq (l := [(0, .iload_n 2, 1), (1, .iconst 1, 1), (2, .isub, 1), (3, .istore_n 3, 1)]) (S2 := (4, [some (.ref 5), some (.int v1), some (.int v2), some (.int (v2 - (1 : Int32)))], [], M)) (by decide +kernel) (hO := mm_own_63) rfl ?_
  have hp : mp_63_4 L xs (d + 1) v1 (v2 - (1 : Int32)) M o := by
    refine ms_63_L4 hd h hA (fun r2 M1 h => ?_)
    intro y3 y4 y5 y6
    show mm_Runs L xs (d + 1) 63 (23, [y3, y4, y5, y6], [], M1) o
    cases h
    exact mm_R_retv rfl rfl hA
  exact hp (some (.int v2))
-- 92: PlainPacks$Blocks.writeLetter(I)V (depth 3)
theorem mm_own_92 : mm_own 92 = 6 := rfl
set_option maxRecDepth 8000 in
set_option maxHeartbeats 4000000 in
theorem ms_92 {L : Nat} {xs : Nat → Int32} {d : Nat} (hd : 3 ≤ d) {v1 : Int32} {M : mm_M} {q : (Unit ⊕ Nat) × mm_M} {o : mm_E} (h : mf_92 v1 M = some q) (hA : mm_A (mm_Kr mm_wv) q o) : mm_Runs L xs d 92 (0, mm_ent (mm_ml 92) [.ref 16, .int v1], [], M) o := by
  unfold mf_92 at h
  obtain ⟨d, rfl⟩ := mm_d1 (n := 2) hd
  show mm_Runs L xs (d + 1) 92 (0, [some (.ref 16), some (.int v1)], [], M) o
  refine mm_Runs.seq (l := [(0, .iload_n 1, 1), (1, .sipush 144, 3)]) (S2 := (4, [some (.ref 16), some (.int v1)], [.int (144 : Int32), .int v1], M)) (by decide +kernel) (hO := mm_own_92) rfl ?_
  refine mm_R_ige (t := 23) rfl rfl rfl (fun hc => ?_) (fun hc => ?_)
  · replace h := mm_ip hc h
    refine mm_Runs.seq (l := [(7, .aload_n 0, 1), (8, .getfield 47, 3), (11, .bipush 48, 2), (13, .iload_n 1, 1), (14, .iadd, 1), (15, .bipush 8, 2)]) (S2 := (17, [some (.ref 16), some (.int v1)], [.int (8 : Int32), .int ((48 : Int32) + v1), .ref 5], M)) (by decide +kernel) (hO := mm_own_92) rfl ?_
    refine mm_R_call (v := mm_wv) h hA (k2 := 63) (as := [.ref 5, .int ((48 : Int32) + v1), .int (8 : Int32)]) (r := []) rfl (fun _ => rfl) (fun q hq o ho => ms_63 (by omega) hq ho) (fun _ M1 h => ?_)
    show mm_Runs L xs (d + 1) 92 (20, [some (.ref 16), some (.int v1)], [], M1) o
    refine mm_Runs.seq (l := [(20, .goto 73, 3)]) (S2 := (93, [some (.ref 16), some (.int v1)], [], M1)) (by decide +kernel) (hO := mm_own_92) rfl ?_
    cases h
    exact mm_R_retv rfl rfl hA
  · replace h := mm_iq hc h
    refine mm_Runs.seq (l := [(23, .iload_n 1, 1), (24, .sipush 256, 3)]) (S2 := (27, [some (.ref 16), some (.int v1)], [.int (256 : Int32), .int v1], M)) (by decide +kernel) (hO := mm_own_92) rfl ?_
    refine mm_R_ige (t := 51) rfl rfl rfl (fun hc => ?_) (fun hc => ?_)
    · replace h := mm_ip hc h
      refine mm_Runs.seq (l := [(30, .aload_n 0, 1), (31, .getfield 47, 3), (34, .sipush 400, 3), (37, .iload_n 1, 1), (38, .iadd, 1), (39, .sipush 144, 3), (42, .isub, 1), (43, .bipush 9, 2)]) (S2 := (45, [some (.ref 16), some (.int v1)], [.int (9 : Int32), .int (((400 : Int32) + v1) - (144 : Int32)), .ref 5], M)) (by decide +kernel) (hO := mm_own_92) rfl ?_
      refine mm_R_call (v := mm_wv) h hA (k2 := 63) (as := [.ref 5, .int (((400 : Int32) + v1) - (144 : Int32)), .int (9 : Int32)]) (r := []) rfl (fun _ => rfl) (fun q hq o ho => ms_63 (by omega) hq ho) (fun _ M2 h => ?_)
      show mm_Runs L xs (d + 1) 92 (48, [some (.ref 16), some (.int v1)], [], M2) o
      refine mm_Runs.seq (l := [(48, .goto 45, 3)]) (S2 := (93, [some (.ref 16), some (.int v1)], [], M2)) (by decide +kernel) (hO := mm_own_92) rfl ?_
      cases h
      exact mm_R_retv rfl rfl hA
    · replace h := mm_iq hc h
      refine mm_Runs.seq (l := [(51, .iload_n 1, 1), (52, .sipush 280, 3)]) (S2 := (55, [some (.ref 16), some (.int v1)], [.int (280 : Int32), .int v1], M)) (by decide +kernel) (hO := mm_own_92) rfl ?_
      refine mm_R_ige (t := 75) rfl rfl rfl (fun hc => ?_) (fun hc => ?_)
      · replace h := mm_ip hc h
        refine mm_Runs.seq (l := [(58, .aload_n 0, 1), (59, .getfield 47, 3), (62, .iload_n 1, 1), (63, .sipush 256, 3), (66, .isub, 1), (67, .bipush 7, 2)]) (S2 := (69, [some (.ref 16), some (.int v1)], [.int (7 : Int32), .int (v1 - (256 : Int32)), .ref 5], M)) (by decide +kernel) (hO := mm_own_92) rfl ?_
        refine mm_R_call (v := mm_wv) h hA (k2 := 63) (as := [.ref 5, .int (v1 - (256 : Int32)), .int (7 : Int32)]) (r := []) rfl (fun _ => rfl) (fun q hq o ho => ms_63 (by omega) hq ho) (fun _ M3 h => ?_)
        show mm_Runs L xs (d + 1) 92 (72, [some (.ref 16), some (.int v1)], [], M3) o
        refine mm_Runs.seq (l := [(72, .goto 21, 3)]) (S2 := (93, [some (.ref 16), some (.int v1)], [], M3)) (by decide +kernel) (hO := mm_own_92) rfl ?_
        cases h
        exact mm_R_retv rfl rfl hA
      · replace h := mm_iq hc h
        refine mm_Runs.seq (l := [(75, .aload_n 0, 1), (76, .getfield 47, 3), (79, .sipush 192, 3), (82, .iload_n 1, 1), (83, .iadd, 1), (84, .sipush 280, 3), (87, .isub, 1), (88, .bipush 8, 2)]) (S2 := (90, [some (.ref 16), some (.int v1)], [.int (8 : Int32), .int (((192 : Int32) + v1) - (280 : Int32)), .ref 5], M)) (by decide +kernel) (hO := mm_own_92) rfl ?_
        refine mm_R_call (v := mm_wv) h hA (k2 := 63) (as := [.ref 5, .int (((192 : Int32) + v1) - (280 : Int32)), .int (8 : Int32)]) (r := []) rfl (fun _ => rfl) (fun q hq o ho => ms_63 (by omega) hq ho) (fun _ M4 h => ?_)
        show mm_Runs L xs (d + 1) 92 (93, [some (.ref 16), some (.int v1)], [], M4) o
        cases h
        exact mm_R_retv rfl rfl hA
-- 96: PlainPacks$Blocks.distanceExtra(I)I (depth 1)
theorem mm_own_96 : mm_own 96 = 6 := rfl
set_option maxRecDepth 8000 in
set_option maxHeartbeats 4000000 in
theorem ms_96 {L : Nat} {xs : Nat → Int32} {d : Nat} (hd : 1 ≤ d) {v0 : Int32} {M : mm_M} {q : (Int32 ⊕ Nat) × mm_M} {o : mm_E} (h : mf_96 v0 M = some q) (hA : mm_A (mm_Kr mm_wi) q o) : mm_Runs L xs d 96 (0, mm_ent (mm_ml 96) [.int v0], [], M) o := by
  unfold mf_96 at h
  obtain ⟨d, rfl⟩ := mm_d1 (n := 0) hd
  show mm_Runs L xs (d + 1) 96 (0, [some (.int v0), none], [], M) o
  refine mm_Runs.seq (l := [(0, .iload_n 0, 1), (1, .iconst 1, 1), (2, .isub, 1), (3, .istore_n 1, 1), (4, .iload_n 1, 1), (5, .iconst 4, 1)]) (S2 := (6, [some (.int v0), some (.int (v0 - (1 : Int32)))], [.int (4 : Int32), .int (v0 - (1 : Int32))], M)) (by decide +kernel) (hO := mm_own_96) rfl ?_
  refine mm_R_ige (t := 13) rfl rfl rfl (fun hc => ?_) (fun hc => ?_)
  · replace h := mm_ip hc h
    refine mm_Runs.seq (l := [(9, .iconst 0, 1), (10, .goto 9, 3)]) (S2 := (19, [some (.int v0), some (.int (v0 - (1 : Int32)))], [.int (0 : Int32)], M)) (by decide +kernel) (hO := mm_own_96) rfl ?_
    cases h
    exact mm_R_reti rfl rfl hA
  · replace h := mm_iq hc h
    refine mm_Runs.seq (l := [(13, .iload_n 1, 1)]) (S2 := (14, [some (.int v0), some (.int (v0 - (1 : Int32)))], [.int (v0 - (1 : Int32))], M)) (by decide +kernel) (hO := mm_own_96) rfl ?_
    refine mm_R_call (v := mm_wi) h hA (k2 := 34) (as := [.int (v0 - (1 : Int32))]) (r := []) rfl (fun _ => rfl) (fun q hq o ho => ms_34 (by omega) hq ho) (fun r1 M2 h => ?_)
    show mm_Runs L xs (d + 1) 96 (17, [some (.int v0), some (.int (v0 - (1 : Int32)))], [.int r1], M2) o
    refine mm_Runs.seq (l := [(17, .iconst 1, 1), (18, .isub, 1)]) (S2 := (19, [some (.int v0), some (.int (v0 - (1 : Int32)))], [.int (r1 - (1 : Int32))], M2)) (by decide +kernel) (hO := mm_own_96) rfl ?_
    cases h
    exact mm_R_reti rfl rfl hA
-- 93: PlainPacks$Blocks.writeDistance(I)V (depth 3)
theorem mm_own_93 : mm_own 93 = 6 := rfl
def mp_93_33 (L : Nat) (xs : Nat → Int32) (d : Nat) (v2 : Int32) (v3 : Int32) (s1 : Int32) (M : mm_M) (o : mm_E) : Prop := ∀ z1 : Option Value, mm_Runs L xs d 93 (33, [some (.ref 16), z1, some (.int v2), some (.int v3)], [.int s1, .ref 5], M) o
set_option maxRecDepth 8000 in
set_option maxHeartbeats 4000000 in
theorem ms_93_j33 {L : Nat} {xs : Nat → Int32} {d : Nat} (hd : 3 ≤ d) {v2 : Int32} {v3 : Int32} {s1 : Int32} {M : mm_M} {q : (Unit ⊕ Nat) × mm_M} {o : mm_E} (h : mf_93_j33 v2 v3 s1 M = some q) (hA : mm_A (mm_Kr mm_wv) q o) : mp_93_33 L xs d v2 v3 s1 M o := by
  unfold mf_93_j33 at h
  obtain ⟨d, rfl⟩ := mm_d1 (n := 2) hd
  intro z1
  show mm_Runs L xs (d + 1) 93 (33, [some (.ref 16), z1, some (.int v2), some (.int v3)], [.int s1, .ref 5], M) o
  refine mm_Runs.seq (l := [(33, .iconst 5, 1)]) (S2 := (34, [some (.ref 16), z1, some (.int v2), some (.int v3)], [.int (5 : Int32), .int s1, .ref 5], M)) (by decide +kernel) (hO := mm_own_93) rfl ?_
  refine mm_R_call (v := mm_wv) h hA (k2 := 63) (as := [.ref 5, .int s1, .int (5 : Int32)]) (r := []) rfl (fun _ => rfl) (fun q hq o ho => ms_63 (by omega) hq ho) (fun _ M1 h => ?_)
  show mm_Runs L xs (d + 1) 93 (37, [some (.ref 16), z1, some (.int v2), some (.int v3)], [], M1) o
  refine mm_Runs.seq (l := [(37, .aload_n 0, 1), (38, .getfield 47, 3), (41, .iload_n 3, 1), (42, .i2l, 1), (43, .iload_n 2, 1)]) (S2 := (44, [some (.ref 16), z1, some (.int v2), some (.int v3)], [.int v2, .long v3.toInt64, .ref 5], M1)) (by decide +kernel) (hO := mm_own_93) rfl ?_
  refine mm_R_call (v := mm_wv) h hA (k2 := 62) (as := [.ref 5, .long v3.toInt64, .int v2]) (r := []) rfl (fun _ => rfl) (fun q hq o ho => ms_62 (by omega) hq ho) (fun _ M2 h => ?_)
  show mm_Runs L xs (d + 1) 93 (47, [some (.ref 16), z1, some (.int v2), some (.int v3)], [], M2) o
  cases h
  exact mm_R_retv rfl rfl hA
set_option maxRecDepth 8000 in
set_option maxHeartbeats 4000000 in
theorem ms_93 {L : Nat} {xs : Nat → Int32} {d : Nat} (hd : 3 ≤ d) {v1 : Int32} {M : mm_M} {q : (Unit ⊕ Nat) × mm_M} {o : mm_E} (h : mf_93 v1 M = some q) (hA : mm_A (mm_Kr mm_wv) q o) : mm_Runs L xs d 93 (0, mm_ent (mm_ml 93) [.ref 16, .int v1], [], M) o := by
  unfold mf_93 at h
  obtain ⟨d, rfl⟩ := mm_d1 (n := 2) hd
  show mm_Runs L xs (d + 1) 93 (0, [some (.ref 16), some (.int v1), none, none], [], M) o
  refine mm_Runs.seq (l := [(0, .iload_n 1, 1)]) (S2 := (1, [some (.ref 16), some (.int v1), none, none], [.int v1], M)) (by decide +kernel) (hO := mm_own_93) rfl ?_
  refine mm_R_call (v := mm_wi) h hA (k2 := 96) (as := [.int v1]) (r := []) rfl (fun _ => rfl) (fun q hq o ho => ms_96 (by omega) hq ho) (fun r1 M2 h => ?_)
  show mm_Runs L xs (d + 1) 93 (4, [some (.ref 16), some (.int v1), none, none], [.int r1], M2) o
  refine mm_Runs.seq (l := [(4, .istore_n 2, 1), (5, .iload_n 1, 1), (6, .iconst 1, 1), (7, .isub, 1), (8, .istore_n 3, 1), (9, .aload_n 0, 1), (10, .getfield 47, 3), (13, .iload_n 3, 1), (14, .iconst 4, 1)]) (S2 := (15, [some (.ref 16), some (.int v1), some (.int r1), some (.int (v1 - (1 : Int32)))], [.int (4 : Int32), .int (v1 - (1 : Int32)), .ref 5], M2)) (by decide +kernel) (hO := mm_own_93) rfl ?_
  refine mm_R_ige (t := 22) rfl rfl rfl (fun hc => ?_) (fun hc => ?_)
  · replace h := mm_ip hc h
    refine mm_Runs.seq (l := [(18, .iload_n 3, 1), (19, .goto 14, 3)]) (S2 := (33, [some (.ref 16), some (.int v1), some (.int r1), some (.int (v1 - (1 : Int32)))], [.int (v1 - (1 : Int32)), .ref 5], M2)) (by decide +kernel) (hO := mm_own_93) rfl ?_
    exact (ms_93_j33 hd h hA : mp_93_33 L xs (d + 1) r1 (v1 - (1 : Int32)) (v1 - (1 : Int32)) M2 o) (some (.int v1))
  · replace h := mm_iq hc h
    refine mm_Runs.seq (l := [(22, .iconst 2, 1), (23, .iload_n 2, 1), (24, .imul, 1), (25, .iconst 2, 1), (26, .iadd, 1), (27, .iload_n 3, 1), (28, .iload_n 2, 1), (29, .ishr, 1), (30, .iconst 1, 1), (31, .iand, 1), (32, .iadd, 1)]) (S2 := (33, [some (.ref 16), some (.int v1), some (.int r1), some (.int (v1 - (1 : Int32)))], [.int ((((2 : Int32) * r1) + (2 : Int32)) + ((mm_shr (v1 - (1 : Int32)) r1) &&& (1 : Int32))), .ref 5], M2)) (by decide +kernel) (hO := mm_own_93) rfl ?_
    exact (ms_93_j33 hd h hA : mp_93_33 L xs (d + 1) r1 (v1 - (1 : Int32)) ((((2 : Int32) * r1) + (2 : Int32)) + ((mm_shr (v1 - (1 : Int32)) r1) &&& (1 : Int32))) M2 o) (some (.int v1))
-- 64: PlainPacks$Writer.closeByte()V (depth 1)
theorem mm_own_64 : mm_own 64 = 3 := rfl
set_option maxRecDepth 8000 in
set_option maxHeartbeats 4000000 in
theorem ms_64 {L : Nat} {xs : Nat → Int32} {d : Nat} (hd : 1 ≤ d) {M : mm_M} {q : (Unit ⊕ Nat) × mm_M} {o : mm_E} (h : mf_64 M = some q) (hA : mm_A (mm_Kr mm_wv) q o) : mm_Runs L xs d 64 (0, mm_ent (mm_ml 64) [.ref 5], [], M) o := by
  unfold mf_64 at h
  obtain ⟨d, rfl⟩ := mm_d1 (n := 0) hd
  show mm_Runs L xs (d + 1) 64 (0, [some (.ref 5)], [], M) o
  refine mm_Runs.seq (l := [(0, .aload_n 0, 1), (1, .getfield 33, 3)]) (S2 := (4, [some (.ref 5)], [.int (M.1 5 5)], M)) (by decide +kernel) (hO := mm_own_64) rfl ?_
  refine mm_R_zle (t := 15) rfl rfl rfl (fun hc => ?_) (fun hc => ?_)
  · replace h := mm_ip hc h
    refine mm_Runs.seq (l := [(7, .aload_n 0, 1), (8, .aload_n 0, 1), (9, .getfield 30, 3)]) (S2 := (12, [some (.ref 5)], [.int (M.1 5 4), .ref 5], M)) (by decide +kernel) (hO := mm_own_64) rfl ?_
    refine mm_R_call (v := mm_wv) h hA (k2 := 57) (as := [.ref 5, .int (M.1 5 4)]) (r := []) rfl (fun _ => rfl) (fun q hq o ho => ms_57 (by omega) hq ho) (fun _ M1 h => ?_)
    show mm_Runs L xs (d + 1) 64 (15, [some (.ref 5)], [], M1) o
    refine mm_Runs.seq (l := [(15, .aload_n 0, 1), (16, .iconst 0, 1), (17, .putfield 30, 3), (20, .aload_n 0, 1), (21, .iconst 0, 1), (22, .putfield 33, 3)]) (S2 := (25, [some (.ref 5)], [], (mm_pi (mm_pi M1 5 4 (0 : Int32)) 5 5 (0 : Int32)))) (by decide +kernel) (hO := mm_own_64) rfl ?_
    cases h
    exact mm_R_retv rfl rfl hA
  · replace h := mm_iq hc h
    refine mm_Runs.seq (l := [(15, .aload_n 0, 1), (16, .iconst 0, 1), (17, .putfield 30, 3), (20, .aload_n 0, 1), (21, .iconst 0, 1), (22, .putfield 33, 3)]) (S2 := (25, [some (.ref 5)], [], (mm_pi (mm_pi M 5 4 (0 : Int32)) 5 5 (0 : Int32)))) (by decide +kernel) (hO := mm_own_64) rfl ?_
    cases h
    exact mm_R_retv rfl rfl hA
-- 91: PlainPacks$Blocks.writeBlock()V (depth 4)
theorem mm_own_91 : mm_own 91 = 6 := rfl
def mp_91_27 (L : Nat) (xs : Nat → Int32) (d : Nat) (v1 : Int32) (M : mm_M) (o : mm_E) : Prop := mm_Runs L xs d 91 (27, [some (.ref 16), some (.int v1)], [], M) o
def mp_91_144 (L : Nat) (xs : Nat → Int32) (d : Nat) (M : mm_M) (o : mm_E) : Prop := ∀ z1 : Option Value, mm_Runs L xs d 91 (144, [some (.ref 16), z1], [], M) o
set_option maxRecDepth 8000 in
set_option maxHeartbeats 4000000 in
theorem ms_91_b27 {L : Nat} {xs : Nat → Int32} {d : Nat} (hd : 4 ≤ d) {v1 : Int32} {M : mm_M} {q : (((Int32) ⊕ (Unit)) ⊕ Nat) × mm_M} {o : mm_E} (h : mf_91_b27 v1 M = some q) (hA : mm_A (mm_K2 (fun s M o => mp_91_27 L xs (d) s M o) (fun r M o => mp_91_144 L xs (d) M o)) q o) : mp_91_27 L xs d v1 M o := by
  unfold mf_91_b27 at h
  obtain ⟨d, rfl⟩ := mm_d1 (n := 3) hd
  show mm_Runs L xs (d + 1) 91 (27, [some (.ref 16), some (.int v1)], [], M) o
  refine mm_Runs.seq (l := [(27, .iload_n 1, 1), (28, .aload_n 0, 1), (29, .getfield 39, 3), (32, .getfield 191, 3)]) (S2 := (35, [some (.ref 16), some (.int v1)], [.int (M.1 1 1), .int v1], M)) (by decide +kernel) (hO := mm_own_91) rfl ?_
  refine mm_R_ige (t := 144) rfl rfl rfl (fun hc => ?_) (fun hc => ?_)
  · replace h := mm_ip hc h
    refine mm_Runs.seq (l := [(38, .aload_n 0, 1), (39, .getfield 51, 3), (42, .iload_n 1, 1), (43, .sipush 258, 3)]) (S2 := (46, [some (.ref 16), some (.int v1)], [.int (258 : Int32), .int v1, .ref 13], M)) (by decide +kernel) (hO := mm_own_91) rfl ?_
    refine mm_R_call (v := mm_wv) h hA (k2 := 71) (as := [.ref 13, .int v1, .int (258 : Int32)]) (r := []) rfl (fun _ => rfl) (fun q hq o ho => ms_71 (by omega) hq ho) (fun _ M1 h => ?_)
    show mm_Runs L xs (d + 1) 91 (49, [some (.ref 16), some (.int v1)], [], M1) o
    refine mm_Runs.seq (l := [(49, .aload_n 0, 1), (50, .getfield 51, 3), (53, .getfield 208, 3), (56, .iconst 3, 1)]) (S2 := (57, [some (.ref 16), some (.int v1)], [.int (3 : Int32), .int (M1.1 13 0)], M1)) (by decide +kernel) (hO := mm_own_91) rfl ?_
    refine mm_R_ilt (t := 125) rfl rfl rfl (fun hc => ?_) (fun hc => ?_)
    · replace h := mm_ip hc h
      refine mm_Runs.seq (l := [(125, .aload_n 0, 1), (126, .aload_n 0, 1), (127, .getfield 39, 3), (130, .getfield 94, 3), (133, .iload_n 1, 1)]) (S2 := (134, [some (.ref 16), some (.int v1)], [.int v1, .ref 2, .ref 16], M1)) (by decide +kernel) (hO := mm_own_91) rfl ?_
      obtain ⟨hb, h⟩ := mm_gd h
      refine mm_R_iald rfl rfl hb ?_
      refine mm_R_call (v := mm_wv) h hA (k2 := 92) (as := [.ref 16, .int (M1.1 2 v1.toNatClampNeg)]) (r := []) rfl (fun _ => rfl) (fun q hq o ho => ms_92 (by omega) hq ho) (fun _ M2 h => ?_)
      show mm_Runs L xs (d + 1) 91 (138, [some (.ref 16), some (.int v1)], [], M2) o
      refine mm_Runs.seq (l := [(138, .iinc 1 1, 3), (141, .goto (-114), 3)]) (S2 := (27, [some (.ref 16), some (.int (v1 + (1 : Int32)))], [], M2)) (by decide +kernel) (hO := mm_own_91) rfl ?_
      cases h
      exact (show mp_91_27 L xs (d + 1) (v1 + (1 : Int32)) M2 o from hA)
    · replace h := mm_iq hc h
      refine mm_Runs.seq (l := [(60, .aload_n 0, 1), (61, .aload_n 0, 1), (62, .getfield 51, 3), (65, .getfield 208, 3)]) (S2 := (68, [some (.ref 16), some (.int v1)], [.int (M1.1 13 0), .ref 16], M1)) (by decide +kernel) (hO := mm_own_91) rfl ?_
      refine mm_R_call (v := mm_wi) h hA (k2 := 94) (as := [.int (M1.1 13 0)]) (r := [.ref 16]) rfl (fun _ => rfl) (fun q hq o ho => ms_94 (by omega) hq ho) (fun r3 M4 h => ?_)
      show mm_Runs L xs (d + 1) 91 (71, [some (.ref 16), some (.int v1)], [.int r3, .ref 16], M4) o
      refine mm_R_call (v := mm_wv) h hA (k2 := 92) (as := [.ref 16, .int r3]) (r := []) rfl (fun _ => rfl) (fun q hq o ho => ms_92 (by omega) hq ho) (fun _ M5 h => ?_)
      show mm_Runs L xs (d + 1) 91 (74, [some (.ref 16), some (.int v1)], [], M5) o
      refine mm_Runs.seq (l := [(74, .aload_n 0, 1), (75, .getfield 47, 3), (78, .aload_n 0, 1), (79, .getfield 51, 3), (82, .getfield 208, 3), (85, .iconst 3, 1), (86, .isub, 1), (87, .i2l, 1), (88, .aload_n 0, 1), (89, .getfield 51, 3), (92, .getfield 208, 3)]) (S2 := (95, [some (.ref 16), some (.int v1)], [.int (M5.1 13 0), .long ((M5.1 13 0) - (3 : Int32)).toInt64, .ref 5], M5)) (by decide +kernel) (hO := mm_own_91) rfl ?_
      refine mm_R_call (v := mm_wi) h hA (k2 := 95) (as := [.int (M5.1 13 0)]) (r := [.long ((M5.1 13 0) - (3 : Int32)).toInt64, .ref 5]) rfl (fun _ => rfl) (fun q hq o ho => ms_95 (by omega) hq ho) (fun r6 M7 h => ?_)
      show mm_Runs L xs (d + 1) 91 (98, [some (.ref 16), some (.int v1)], [.int r6, .long ((M5.1 13 0) - (3 : Int32)).toInt64, .ref 5], M7) o
      refine mm_R_call (v := mm_wv) h hA (k2 := 62) (as := [.ref 5, .long ((M5.1 13 0) - (3 : Int32)).toInt64, .int r6]) (r := []) rfl (fun _ => rfl) (fun q hq o ho => ms_62 (by omega) hq ho) (fun _ M8 h => ?_)
      show mm_Runs L xs (d + 1) 91 (101, [some (.ref 16), some (.int v1)], [], M8) o
      refine mm_Runs.seq (l := [(101, .aload_n 0, 1), (102, .aload_n 0, 1), (103, .getfield 51, 3), (106, .getfield 220, 3)]) (S2 := (109, [some (.ref 16), some (.int v1)], [.int (M8.1 13 1), .ref 16], M8)) (by decide +kernel) (hO := mm_own_91) rfl ?_
      refine mm_R_call (v := mm_wv) h hA (k2 := 93) (as := [.ref 16, .int (M8.1 13 1)]) (r := []) rfl (fun _ => rfl) (fun q hq o ho => ms_93 (by omega) hq ho) (fun _ M9 h => ?_)
      show mm_Runs L xs (d + 1) 91 (112, [some (.ref 16), some (.int v1)], [], M9) o
      refine mm_Runs.seq (l := [(112, .iload_n 1, 1), (113, .aload_n 0, 1), (114, .getfield 51, 3), (117, .getfield 208, 3), (120, .iadd, 1), (121, .istore_n 1, 1), (122, .goto (-95), 3)]) (S2 := (27, [some (.ref 16), some (.int (v1 + (M9.1 13 0)))], [], M9)) (by decide +kernel) (hO := mm_own_91) rfl ?_
      cases h
      exact (show mp_91_27 L xs (d + 1) (v1 + (M9.1 13 0)) M9 o from hA)
  · replace h := mm_iq hc h
    cases h
    exact (show mp_91_144 L xs (d + 1) M o from hA) (some (.int v1))
theorem ms_91_L27 {L : Nat} {xs : Nat → Int32} {d : Nat} (hd : 4 ≤ d) {v1 : Int32} {β : Type} {K : β → mm_M → mm_E → Prop} {F : (Unit) → mm_M → mm_O β} {M : mm_M} {q : (β ⊕ Nat) × mm_M} {o : mm_E} (h : mm_B (mf_91_L27 v1 M) F = some q) (hA : mm_A K q o) (hx : ∀ (r : (Unit)) (M2 : mm_M), F r M2 = some q → (fun r M o => mp_91_144 L xs (d) M o) r M2 o) : mp_91_27 L xs d v1 M o := by
  unfold mf_91_L27 at h
  exact mm_R_loop (step := (fun s M => mf_91_b27 s M)) (s := v1) (M := M) (P := (fun s M o => mp_91_27 L xs (d) s M o)) (X := (fun r M o => mp_91_144 L xs (d) M o)) h hA (fun s M q hq hA => ms_91_b27 (v1 := s) (M := M) (q := q) hd hq hA) hx
set_option maxRecDepth 8000 in
set_option maxHeartbeats 4000000 in
theorem ms_91_j144 {L : Nat} {xs : Nat → Int32} {d : Nat} (hd : 4 ≤ d) {M : mm_M} {q : (Unit ⊕ Nat) × mm_M} {o : mm_E} (h : mf_91_j144 M = some q) (hA : mm_A (mm_Kr mm_wv) q o) : mp_91_144 L xs d M o := by
  unfold mf_91_j144 at h
  obtain ⟨d, rfl⟩ := mm_d1 (n := 3) hd
  intro z1
  show mm_Runs L xs (d + 1) 91 (144, [some (.ref 16), z1], [], M) o
  refine mm_Runs.seq (l := [(144, .aload_n 0, 1), (145, .sipush 256, 3)]) (S2 := (148, [some (.ref 16), z1], [.int (256 : Int32), .ref 16], M)) (by decide +kernel) (hO := mm_own_91) rfl ?_
  refine mm_R_call (v := mm_wv) h hA (k2 := 92) (as := [.ref 16, .int (256 : Int32)]) (r := []) rfl (fun _ => rfl) (fun q hq o ho => ms_92 (by omega) hq ho) (fun _ M1 h => ?_)
  show mm_Runs L xs (d + 1) 91 (151, [some (.ref 16), z1], [], M1) o
  refine mm_Runs.seq (l := [(151, .aload_n 0, 1), (152, .getfield 47, 3)]) (S2 := (155, [some (.ref 16), z1], [.ref 5], M1)) (by decide +kernel) (hO := mm_own_91) rfl ?_
  refine mm_R_call (v := mm_wv) h hA (k2 := 64) (as := [.ref 5]) (r := []) rfl (fun _ => rfl) (fun q hq o ho => ms_64 (by omega) hq ho) (fun _ M2 h => ?_)
  show mm_Runs L xs (d + 1) 91 (158, [some (.ref 16), z1], [], M2) o
  cases h
  exact mm_R_retv rfl rfl hA
set_option maxRecDepth 8000 in
set_option maxHeartbeats 4000000 in
theorem ms_91 {L : Nat} {xs : Nat → Int32} {d : Nat} (hd : 4 ≤ d) {M : mm_M} {q : (Unit ⊕ Nat) × mm_M} {o : mm_E} (h : mf_91 M = some q) (hA : mm_A (mm_Kr mm_wv) q o) : mm_Runs L xs d 91 (0, mm_ent (mm_ml 91) [.ref 16], [], M) o := by
  unfold mf_91 at h
  obtain ⟨d, rfl⟩ := mm_d1 (n := 3) hd
  show mm_Runs L xs (d + 1) 91 (0, [some (.ref 16), none], [], M) o
  refine mm_Runs.seq (l := [(0, .aload_n 0, 1), (1, .getfield 47, 3), (4, .lconst 1, 1), (5, .iconst 1, 1)]) (S2 := (6, [some (.ref 16), none], [.int (1 : Int32), .long (1 : Int64), .ref 5], M)) (by decide +kernel) (hO := mm_own_91) rfl ?_
  refine mm_R_call (v := mm_wv) h hA (k2 := 62) (as := [.ref 5, .long (1 : Int64), .int (1 : Int32)]) (r := []) rfl (fun _ => rfl) (fun q hq o ho => ms_62 (by omega) hq ho) (fun _ M1 h => ?_)
  show mm_Runs L xs (d + 1) 91 (9, [some (.ref 16), none], [], M1) o
  refine mm_Runs.seq (l := [(9, .aload_n 0, 1), (10, .getfield 47, 3), (13, .lconst 1, 1), (14, .iconst 2, 1)]) (S2 := (15, [some (.ref 16), none], [.int (2 : Int32), .long (1 : Int64), .ref 5], M1)) (by decide +kernel) (hO := mm_own_91) rfl ?_
  refine mm_R_call (v := mm_wv) h hA (k2 := 62) (as := [.ref 5, .long (1 : Int64), .int (2 : Int32)]) (r := []) rfl (fun _ => rfl) (fun q hq o ho => ms_62 (by omega) hq ho) (fun _ M2 h => ?_)
  show mm_Runs L xs (d + 1) 91 (18, [some (.ref 16), none], [], M2) o
  refine mm_Runs.seq (l := [(18, .aload_n 0, 1), (19, .getfield 51, 3)]) (S2 := (22, [some (.ref 16), none], [.ref 13], M2)) (by decide +kernel) (hO := mm_own_91) rfl ?_
  refine mm_R_call (v := mm_wv) h hA (k2 := 70) (as := [.ref 13]) (r := []) rfl (fun _ => rfl) (fun q hq o ho => ms_70 (by omega) hq ho) (fun _ M3 h => ?_)
  show mm_Runs L xs (d + 1) 91 (25, [some (.ref 16), none], [], M3) o
  refine mm_Runs.seq (l := [(25, .iconst 0, 1), (26, .istore_n 1, 1)]) (S2 := (27, [some (.ref 16), some (.int (0 : Int32))], [], M3)) (by decide +kernel) (hO := mm_own_91) rfl ?_
  have hp : mp_91_27 L xs (d + 1) (0 : Int32) M3 o := by
    refine ms_91_L27 hd h hA (fun r5 M4 h => ?_)
    intro y6
    show mm_Runs L xs (d + 1) 91 (144, [some (.ref 16), y6], [], M4) o
    exact (ms_91_j144 hd h hA : mp_91_144 L xs (d + 1) M4 o) y6
  exact hp
