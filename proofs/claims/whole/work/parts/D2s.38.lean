/-! MEANINGS ARE SOUND 38 -/
-- 35: PlainPacks.weigh()I (depth 1)
theorem mm_own_35 : mm_own 35 = 0 := rfl
def mp_35_18 (L : Nat) (xs : Nat → Int32) (d : Nat) (v1 : Int32) (M : mm_M) (o : mm_E) : Prop := ∀ z2 : Option Value, mm_Runs L xs d 35 (18, [some (.ref 0), some (.int v1), z2], [], M) o
def mp_35_53 (L : Nat) (xs : Nat → Int32) (d : Nat) (M : mm_M) (o : mm_E) : Prop := ∀ z1 z2 : Option Value, mm_Runs L xs d 35 (53, [some (.ref 0), z1, z2], [], M) o
set_option maxRecDepth 8000 in
set_option maxHeartbeats 4000000 in
theorem ms_35_b18 {L : Nat} {xs : Nat → Int32} {d : Nat} (hd : 1 ≤ d) {v1 : Int32} {M : mm_M} {q : (((Int32) ⊕ (Unit)) ⊕ Nat) × mm_M} {o : mm_E} (h : mf_35_b18 v1 M = some q) (hA : mm_A (mm_K2 (fun s M o => mp_35_18 L xs (d) s M o) (fun r M o => mp_35_53 L xs (d) M o)) q o) : mp_35_18 L xs d v1 M o := by
  unfold mf_35_b18 at h
  obtain ⟨d, rfl⟩ := mm_d1 (n := 0) hd
  intro z2
  show mm_Runs L xs (d + 1) 35 (18, [some (.ref 0), some (.int v1), z2], [], M) o
  refine mm_Runs.seq (l := [(18, .iload_n 1, 1), (19, .aload_n 0, 1), (20, .getfield 12, 3), (23, .getfield 90, 3)]) (S2 := (26, [some (.ref 0), some (.int v1), z2], [.int (M.1 1 1), .int v1], M)) (by decide +kernel) (hO := mm_own_35) rfl ?_
  refine mm_R_ige (t := 53) rfl rfl rfl (fun hc => ?_) (fun hc => ?_)
  · replace h := mm_ip hc h
    refine mm_Runs.seq (l := [(29, .aload_n 0, 1), (30, .getfield 83, 3), (33, .aload_n 0, 1), (34, .getfield 12, 3), (37, .getfield 115, 3), (40, .iload_n 1, 1)]) (S2 := (41, [some (.ref 0), some (.int v1), z2], [.int v1, .ref 2, .ref 82], M)) (by decide +kernel) (hO := mm_own_35) rfl ?_
    obtain ⟨hb, h⟩ := mm_gd h
    refine mm_R_iald rfl rfl hb ?_
    refine mm_Runs.seq (l := [(42, .dup2, 1)]) (S2 := (43, [some (.ref 0), some (.int v1), z2], [.int (M.1 2 v1.toNatClampNeg), .ref 82, .int (M.1 2 v1.toNatClampNeg), .ref 82], M)) (by decide +kernel) (hO := mm_own_35) rfl ?_
    obtain ⟨hb, h⟩ := mm_gd h
    refine mm_R_iald rfl rfl hb ?_
    refine mm_Runs.seq (l := [(44, .iconst 1, 1), (45, .iadd, 1)]) (S2 := (46, [some (.ref 0), some (.int v1), z2], [.int ((M.1 82 (M.1 2 v1.toNatClampNeg).toNatClampNeg) + (1 : Int32)), .int (M.1 2 v1.toNatClampNeg), .ref 82], M)) (by decide +kernel) (hO := mm_own_35) rfl ?_
    obtain ⟨hb, h⟩ := mm_gd h
    refine mm_R_iast rfl rfl hb ?_
    refine mm_Runs.seq (l := [(47, .iinc 1 1, 3), (50, .goto (-32), 3)]) (S2 := (18, [some (.ref 0), some (.int (v1 + (1 : Int32))), z2], [], (mm_pi M 82 (M.1 2 v1.toNatClampNeg).toNatClampNeg ((M.1 82 (M.1 2 v1.toNatClampNeg).toNatClampNeg) + (1 : Int32))))) (by decide +kernel) (hO := mm_own_35) rfl ?_
    cases h
    exact (show mp_35_18 L xs (d + 1) (v1 + (1 : Int32)) (mm_pi M 82 (M.1 2 v1.toNatClampNeg).toNatClampNeg ((M.1 82 (M.1 2 v1.toNatClampNeg).toNatClampNeg) + (1 : Int32))) o from hA) z2
  · replace h := mm_iq hc h
    cases h
    exact (show mp_35_53 L xs (d + 1) M o from hA) (some (.int v1)) z2
theorem ms_35_L18 {L : Nat} {xs : Nat → Int32} {d : Nat} (hd : 1 ≤ d) {v1 : Int32} {β : Type} {K : β → mm_M → mm_E → Prop} {F : (Unit) → mm_M → mm_O β} {M : mm_M} {q : (β ⊕ Nat) × mm_M} {o : mm_E} (h : mm_B (mf_35_L18 v1 M) F = some q) (hA : mm_A K q o) (hx : ∀ (r : (Unit)) (M2 : mm_M), F r M2 = some q → (fun r M o => mp_35_53 L xs (d) M o) r M2 o) : mp_35_18 L xs d v1 M o := by
  unfold mf_35_L18 at h
  exact mm_R_loop (step := (fun s M => mf_35_b18 s M)) (s := v1) (M := M) (P := (fun s M o => mp_35_18 L xs (d) s M o)) (X := (fun r M o => mp_35_53 L xs (d) M o)) h hA (fun s M q hq hA => ms_35_b18 (v1 := s) (M := M) (q := q) hd hq hA) hx
def mp_35_57 (L : Nat) (xs : Nat → Int32) (d : Nat) (v1 : Int32) (v2 : Int32) (M : mm_M) (o : mm_E) : Prop := mm_Runs L xs d 35 (57, [some (.ref 0), some (.int v1), some (.int v2)], [], M) o
def mp_35_82 (L : Nat) (xs : Nat → Int32) (d : Nat) (v1 : Int32) (M : mm_M) (o : mm_E) : Prop := ∀ z0 z2 : Option Value, mm_Runs L xs d 35 (82, [z0, some (.int v1), z2], [], M) o
set_option maxRecDepth 8000 in
set_option maxHeartbeats 4000000 in
theorem ms_35_b57 {L : Nat} {xs : Nat → Int32} {d : Nat} (hd : 1 ≤ d) {v1 : Int32} {v2 : Int32} {M : mm_M} {q : (((Int32 × Int32) ⊕ (Int32)) ⊕ Nat) × mm_M} {o : mm_E} (h : mf_35_b57 v1 v2 M = some q) (hA : mm_A (mm_K2 (fun s M o => mp_35_57 L xs (d) s.1 s.2 M o) (fun r M o => mp_35_82 L xs (d) r M o)) q o) : mp_35_57 L xs d v1 v2 M o := by
  unfold mf_35_b57 at h
  obtain ⟨d, rfl⟩ := mm_d1 (n := 0) hd
  show mm_Runs L xs (d + 1) 35 (57, [some (.ref 0), some (.int v1), some (.int v2)], [], M) o
  refine mm_Runs.seq (l := [(57, .iload_n 2, 1), (58, .sipush 256, 3)]) (S2 := (61, [some (.ref 0), some (.int v1), some (.int v2)], [.int (256 : Int32), .int v2], M)) (by decide +kernel) (hO := mm_own_35) rfl ?_
  refine mm_R_ige (t := 82) rfl rfl rfl (fun hc => ?_) (fun hc => ?_)
  · replace h := mm_ip hc h
    refine mm_Runs.seq (l := [(64, .aload_n 0, 1), (65, .getfield 83, 3), (68, .iload_n 2, 1)]) (S2 := (69, [some (.ref 0), some (.int v1), some (.int v2)], [.int v2, .ref 82], M)) (by decide +kernel) (hO := mm_own_35) rfl ?_
    obtain ⟨hb, h⟩ := mm_gd h
    refine mm_R_iald rfl rfl hb ?_
    refine mm_R_zle (t := 76) rfl rfl rfl (fun hc => ?_) (fun hc => ?_)
    · replace h := mm_ip hc h
      refine mm_Runs.seq (l := [(73, .iinc 1 1, 3), (76, .iinc 2 1, 3), (79, .goto (-22), 3)]) (S2 := (57, [some (.ref 0), some (.int (v1 + (1 : Int32))), some (.int (v2 + (1 : Int32)))], [], M)) (by decide +kernel) (hO := mm_own_35) rfl ?_
      cases h
      exact (show mp_35_57 L xs (d + 1) (v1 + (1 : Int32)) (v2 + (1 : Int32)) M o from hA)
    · replace h := mm_iq hc h
      refine mm_Runs.seq (l := [(76, .iinc 2 1, 3), (79, .goto (-22), 3)]) (S2 := (57, [some (.ref 0), some (.int v1), some (.int (v2 + (1 : Int32)))], [], M)) (by decide +kernel) (hO := mm_own_35) rfl ?_
      cases h
      exact (show mp_35_57 L xs (d + 1) v1 (v2 + (1 : Int32)) M o from hA)
  · replace h := mm_iq hc h
    cases h
    exact (show mp_35_82 L xs (d + 1) v1 M o from hA) (some (.ref 0)) (some (.int v2))
theorem ms_35_L57 {L : Nat} {xs : Nat → Int32} {d : Nat} (hd : 1 ≤ d) {v1 : Int32} {v2 : Int32} {β : Type} {K : β → mm_M → mm_E → Prop} {F : (Int32) → mm_M → mm_O β} {M : mm_M} {q : (β ⊕ Nat) × mm_M} {o : mm_E} (h : mm_B (mf_35_L57 (v1, v2) M) F = some q) (hA : mm_A K q o) (hx : ∀ (r : (Int32)) (M2 : mm_M), F r M2 = some q → (fun r M o => mp_35_82 L xs (d) r M o) r M2 o) : mp_35_57 L xs d v1 v2 M o := by
  unfold mf_35_L57 at h
  exact mm_R_loop (step := (fun s M => mf_35_b57 s.1 s.2 M)) (s := (v1, v2)) (M := M) (P := (fun s M o => mp_35_57 L xs (d) s.1 s.2 M o)) (X := (fun r M o => mp_35_82 L xs (d) r M o)) h hA (fun s M q hq hA => ms_35_b57 (v1 := s.1) (v2 := s.2) (M := M) (q := q) hd hq hA) hx
set_option maxRecDepth 8000 in
set_option maxHeartbeats 4000000 in
theorem ms_35 {L : Nat} {xs : Nat → Int32} {d : Nat} (hd : 1 ≤ d) {M : mm_M} {q : (Int32 ⊕ Nat) × mm_M} {o : mm_E} (h : mf_35 M = some q) (hA : mm_A (mm_Kr mm_wi) q o) : mm_Runs L xs d 35 (0, mm_ent (mm_ml 35) [.ref 0], [], M) o := by
  unfold mf_35 at h
  obtain ⟨d, rfl⟩ := mm_d1 (n := 0) hd
  show mm_Runs L xs (d + 1) 35 (0, [some (.ref 0), none, none], [], M) o
  refine mm_Runs.seq (l := [(0, .aload_n 0, 1), (1, .getfield 83, 3), (4, .iconst 0, 1)]) (S2 := (5, [some (.ref 0), none, none], [.int (0 : Int32), .ref 82], M)) (by decide +kernel) (hO := mm_own_35) rfl ?_
  refine mm_R_call (v := mm_wv) h hA (k2 := 290) (as := [.ref 82, .int (0 : Int32)]) (r := []) rfl (fun _ => rfl) (fun q hq o ho => ms_290 rfl (by omega) hq ho) (fun _ M1 h => ?_)
  show mm_Runs L xs (d + 1) 35 (8, [some (.ref 0), none, none], [], M1) o
  refine mm_Runs.seq (l := [(8, .aload_n 0, 1), (9, .getfield 87, 3), (12, .iconst 0, 1)]) (S2 := (13, [some (.ref 0), none, none], [.int (0 : Int32), .ref 83], M1)) (by decide +kernel) (hO := mm_own_35) rfl ?_
  refine mm_R_call (v := mm_wv) h hA (k2 := 290) (as := [.ref 83, .int (0 : Int32)]) (r := []) rfl (fun _ => rfl) (fun q hq o ho => ms_290 rfl (by omega) hq ho) (fun _ M2 h => ?_)
  show mm_Runs L xs (d + 1) 35 (16, [some (.ref 0), none, none], [], M2) o
  refine mm_Runs.seq (l := [(16, .iconst 0, 1), (17, .istore_n 1, 1)]) (S2 := (18, [some (.ref 0), some (.int (0 : Int32)), none], [], M2)) (by decide +kernel) (hO := mm_own_35) rfl ?_
  have hp : mp_35_18 L xs (d + 1) (0 : Int32) M2 o := by
    refine ms_35_L18 hd h hA (fun r4 M3 h => ?_)
    intro y5 y6
    show mm_Runs L xs (d + 1) 35 (53, [some (.ref 0), y5, y6], [], M3) o
    refine mm_Runs.seq (l := [(53, .iconst 0, 1), (54, .istore_n 1, 1), (55, .iconst 0, 1), (56, .istore_n 2, 1)]) (S2 := (57, [some (.ref 0), some (.int (0 : Int32)), some (.int (0 : Int32))], [], M3)) (by decide +kernel) (hO := mm_own_35) rfl ?_
    have hp : mp_35_57 L xs (d + 1) (0 : Int32) (0 : Int32) M3 o := by
      refine ms_35_L57 hd h hA (fun r8 M7 h => ?_)
      intro y9 y10
      show mm_Runs L xs (d + 1) 35 (82, [y9, some (.int r8), y10], [], M7) o
      refine mm_Runs.seq (l := [(82, .iload_n 1, 1)]) (S2 := (83, [y9, some (.int r8), y10], [.int r8], M7)) (by decide +kernel) (hO := mm_own_35) rfl ?_
      cases h
      exact mm_R_reti rfl rfl hA
    exact hp
  exact hp none
-- 37: PlainPacks.lightest(II)I (depth 0)
theorem mm_own_37 : mm_own 37 = 0 := rfl
def mp_37_5 (L : Nat) (xs : Nat → Int32) (d : Nat) (v1 : Int32) (v2 : Int32) (v3 : Int32) (v4 : Int32) (M : mm_M) (o : mm_E) : Prop := ∀ z5 : Option Value, mm_Runs L xs d 37 (5, [some (.ref 0), some (.int v1), some (.int v2), some (.int v3), some (.int v4), z5], [], M) o
def mp_37_78 (L : Nat) (xs : Nat → Int32) (d : Nat) (v3 : Int32) (M : mm_M) (o : mm_E) : Prop := ∀ z0 z1 z2 z4 z5 : Option Value, mm_Runs L xs d 37 (78, [z0, z1, z2, some (.int v3), z4, z5], [], M) o
def mp_37_41 (L : Nat) (xs : Nat → Int32) (d : Nat) (v1 : Int32) (v2 : Int32) (v3 : Int32) (v4 : Int32) (M : mm_M) (o : mm_E) : Prop := ∀ z5 : Option Value, mm_Runs L xs d 37 (41, [some (.ref 0), some (.int v1), some (.int v2), some (.int v3), some (.int v4), z5], [], M) o
def mp_37_42 (L : Nat) (xs : Nat → Int32) (d : Nat) (v1 : Int32) (v2 : Int32) (v3 : Int32) (v4 : Int32) (s0 : Int32) (M : mm_M) (o : mm_E) : Prop := ∀ z5 : Option Value, mm_Runs L xs d 37 (42, [some (.ref 0), some (.int v1), some (.int v2), some (.int v3), some (.int v4), z5], [.int s0], M) o
set_option maxRecDepth 8000 in
set_option maxHeartbeats 4000000 in
theorem ms_37_j42 {L : Nat} {xs : Nat → Int32} {d : Nat} (hd : 0 ≤ d) {v1 : Int32} {v2 : Int32} {v3 : Int32} {v4 : Int32} {s0 : Int32} {M : mm_M} {q : (((Int32 × Int32) ⊕ (Int32)) ⊕ Nat) × mm_M} {o : mm_E} (h : mf_37_j42 v1 v2 v3 v4 s0 M = some q) (hA : mm_A (mm_K2 (fun s M o => mp_37_5 L xs (d) v1 v2 s.1 s.2 M o) (fun r M o => mp_37_78 L xs (d) r M o)) q o) : mp_37_42 L xs d v1 v2 v3 v4 s0 M o := by
  unfold mf_37_j42 at h
  intro z5
  show mm_Runs L xs (d) 37 (42, [some (.ref 0), some (.int v1), some (.int v2), some (.int v3), some (.int v4), z5], [.int s0], M) o
  refine mm_Runs.seq (l := [(42, .istore 5, 2), (44, .iload 5, 2)]) (S2 := (46, [some (.ref 0), some (.int v1), some (.int v2), some (.int v3), some (.int v4), some (.int s0)], [.int s0], M)) (by decide +kernel) (hO := mm_own_37) rfl ?_
  refine mm_R_zeq (t := 72) rfl rfl rfl (fun hc => ?_) (fun hc => ?_)
  · replace h := mm_ip hc h
    refine mm_Runs.seq (l := [(72, .iinc 4 1, 3), (75, .goto (-70), 3)]) (S2 := (5, [some (.ref 0), some (.int v1), some (.int v2), some (.int v3), some (.int (v4 + (1 : Int32))), some (.int s0)], [], M)) (by decide +kernel) (hO := mm_own_37) rfl ?_
    cases h
    exact (show mp_37_5 L xs (d) v1 v2 v3 (v4 + (1 : Int32)) M o from hA) (some (.int s0))
  · replace h := mm_iq hc h
    refine mm_Runs.seq (l := [(49, .iload_n 3, 1)]) (S2 := (50, [some (.ref 0), some (.int v1), some (.int v2), some (.int v3), some (.int v4), some (.int s0)], [.int v3], M)) (by decide +kernel) (hO := mm_own_37) rfl ?_
    refine mm_R_zlt (t := 69) rfl rfl rfl (fun hc => ?_) (fun hc => ?_)
    · replace h := mm_ip hc h
      refine mm_Runs.seq (l := [(69, .iload 4, 2), (71, .istore_n 3, 1), (72, .iinc 4 1, 3), (75, .goto (-70), 3)]) (S2 := (5, [some (.ref 0), some (.int v1), some (.int v2), some (.int v4), some (.int (v4 + (1 : Int32))), some (.int s0)], [], M)) (by decide +kernel) (hO := mm_own_37) rfl ?_
      cases h
      exact (show mp_37_5 L xs (d) v1 v2 v4 (v4 + (1 : Int32)) M o from hA) (some (.int s0))
    · replace h := mm_iq hc h
      refine mm_Runs.seq (l := [(53, .aload_n 0, 1), (54, .getfield 83, 3), (57, .iload 4, 2)]) (S2 := (59, [some (.ref 0), some (.int v1), some (.int v2), some (.int v3), some (.int v4), some (.int s0)], [.int v4, .ref 82], M)) (by decide +kernel) (hO := mm_own_37) rfl ?_
      obtain ⟨hb, h⟩ := mm_gd h
      refine mm_R_iald rfl rfl hb ?_
      refine mm_Runs.seq (l := [(60, .aload_n 0, 1), (61, .getfield 83, 3), (64, .iload_n 3, 1)]) (S2 := (65, [some (.ref 0), some (.int v1), some (.int v2), some (.int v3), some (.int v4), some (.int s0)], [.int v3, .ref 82, .int (M.1 82 v4.toNatClampNeg)], M)) (by decide +kernel) (hO := mm_own_37) rfl ?_
      obtain ⟨hb, h⟩ := mm_gd h
      refine mm_R_iald rfl rfl hb ?_
      refine mm_R_ige (t := 72) rfl rfl rfl (fun hc => ?_) (fun hc => ?_)
      · replace h := mm_ip hc h
        refine mm_Runs.seq (l := [(69, .iload 4, 2), (71, .istore_n 3, 1), (72, .iinc 4 1, 3), (75, .goto (-70), 3)]) (S2 := (5, [some (.ref 0), some (.int v1), some (.int v2), some (.int v4), some (.int (v4 + (1 : Int32))), some (.int s0)], [], M)) (by decide +kernel) (hO := mm_own_37) rfl ?_
        cases h
        exact (show mp_37_5 L xs (d) v1 v2 v4 (v4 + (1 : Int32)) M o from hA) (some (.int s0))
      · replace h := mm_iq hc h
        refine mm_Runs.seq (l := [(72, .iinc 4 1, 3), (75, .goto (-70), 3)]) (S2 := (5, [some (.ref 0), some (.int v1), some (.int v2), some (.int v3), some (.int (v4 + (1 : Int32))), some (.int s0)], [], M)) (by decide +kernel) (hO := mm_own_37) rfl ?_
        cases h
        exact (show mp_37_5 L xs (d) v1 v2 v3 (v4 + (1 : Int32)) M o from hA) (some (.int s0))
set_option maxRecDepth 8000 in
set_option maxHeartbeats 4000000 in
theorem ms_37_j41 {L : Nat} {xs : Nat → Int32} {d : Nat} (hd : 0 ≤ d) {v1 : Int32} {v2 : Int32} {v3 : Int32} {v4 : Int32} {M : mm_M} {q : (((Int32 × Int32) ⊕ (Int32)) ⊕ Nat) × mm_M} {o : mm_E} (h : mf_37_j41 v1 v2 v3 v4 M = some q) (hA : mm_A (mm_K2 (fun s M o => mp_37_5 L xs (d) v1 v2 s.1 s.2 M o) (fun r M o => mp_37_78 L xs (d) r M o)) q o) : mp_37_41 L xs d v1 v2 v3 v4 M o := by
  unfold mf_37_j41 at h
  intro z5
  show mm_Runs L xs (d) 37 (41, [some (.ref 0), some (.int v1), some (.int v2), some (.int v3), some (.int v4), z5], [], M) o
  refine mm_Runs.seq (l := [(41, .iconst 0, 1)]) (S2 := (42, [some (.ref 0), some (.int v1), some (.int v2), some (.int v3), some (.int v4), z5], [.int (0 : Int32)], M)) (by decide +kernel) (hO := mm_own_37) rfl ?_
  exact (ms_37_j42 hd h hA : mp_37_42 L xs (d) v1 v2 v3 v4 (0 : Int32) M o) z5
set_option maxRecDepth 8000 in
set_option maxHeartbeats 4000000 in
theorem ms_37_b5 {L : Nat} {xs : Nat → Int32} {d : Nat} (hd : 0 ≤ d) {v1 : Int32} {v2 : Int32} {v3 : Int32} {v4 : Int32} {M : mm_M} {q : (((Int32 × Int32) ⊕ (Int32)) ⊕ Nat) × mm_M} {o : mm_E} (h : mf_37_b5 v1 v2 v3 v4 M = some q) (hA : mm_A (mm_K2 (fun s M o => mp_37_5 L xs (d) v1 v2 s.1 s.2 M o) (fun r M o => mp_37_78 L xs (d) r M o)) q o) : mp_37_5 L xs d v1 v2 v3 v4 M o := by
  unfold mf_37_b5 at h
  intro z5
  show mm_Runs L xs (d) 37 (5, [some (.ref 0), some (.int v1), some (.int v2), some (.int v3), some (.int v4), z5], [], M) o
  refine mm_Runs.seq (l := [(5, .iload 4, 2), (7, .iload_n 1, 1)]) (S2 := (8, [some (.ref 0), some (.int v1), some (.int v2), some (.int v3), some (.int v4), z5], [.int v1, .int v4], M)) (by decide +kernel) (hO := mm_own_37) rfl ?_
  refine mm_R_ige (t := 78) rfl rfl rfl (fun hc => ?_) (fun hc => ?_)
  · replace h := mm_ip hc h
    refine mm_Runs.seq (l := [(11, .aload_n 0, 1), (12, .getfield 83, 3), (15, .iload 4, 2)]) (S2 := (17, [some (.ref 0), some (.int v1), some (.int v2), some (.int v3), some (.int v4), z5], [.int v4, .ref 82], M)) (by decide +kernel) (hO := mm_own_37) rfl ?_
    obtain ⟨hb, h⟩ := mm_gd h
    refine mm_R_iald rfl rfl hb ?_
    refine mm_R_zle (t := 41) rfl rfl rfl (fun hc => ?_) (fun hc => ?_)
    · replace h := mm_ip hc h
      refine mm_Runs.seq (l := [(21, .aload_n 0, 1), (22, .getfield 87, 3), (25, .iload 4, 2)]) (S2 := (27, [some (.ref 0), some (.int v1), some (.int v2), some (.int v3), some (.int v4), z5], [.int v4, .ref 83], M)) (by decide +kernel) (hO := mm_own_37) rfl ?_
      obtain ⟨hb, h⟩ := mm_gd h
      refine mm_R_iald rfl rfl hb ?_
      refine mm_R_zne (t := 41) rfl rfl rfl (fun hc => ?_) (fun hc => ?_)
      · replace h := mm_ip hc h
        refine mm_Runs.seq (l := [(31, .iload 4, 2), (33, .iload_n 2, 1)]) (S2 := (34, [some (.ref 0), some (.int v1), some (.int v2), some (.int v3), some (.int v4), z5], [.int v2, .int v4], M)) (by decide +kernel) (hO := mm_own_37) rfl ?_
        refine mm_R_ieq (t := 41) rfl rfl rfl (fun hc => ?_) (fun hc => ?_)
        · replace h := mm_ip hc h
          exact (ms_37_j41 hd h hA : mp_37_41 L xs (d) v1 v2 v3 v4 M o) z5
        · replace h := mm_iq hc h
          refine mm_Runs.seq (l := [(37, .iconst 1, 1), (38, .goto 4, 3)]) (S2 := (42, [some (.ref 0), some (.int v1), some (.int v2), some (.int v3), some (.int v4), z5], [.int (1 : Int32)], M)) (by decide +kernel) (hO := mm_own_37) rfl ?_
          exact (ms_37_j42 hd h hA : mp_37_42 L xs (d) v1 v2 v3 v4 (1 : Int32) M o) z5
      · replace h := mm_iq hc h
        exact (ms_37_j41 hd h hA : mp_37_41 L xs (d) v1 v2 v3 v4 M o) z5
    · replace h := mm_iq hc h
      exact (ms_37_j41 hd h hA : mp_37_41 L xs (d) v1 v2 v3 v4 M o) z5
  · replace h := mm_iq hc h
    cases h
    exact (show mp_37_78 L xs (d) v3 M o from hA) (some (.ref 0)) (some (.int v1)) (some (.int v2)) (some (.int v4)) z5
theorem ms_37_L5 {L : Nat} {xs : Nat → Int32} {d : Nat} (hd : 0 ≤ d) {v1 : Int32} {v2 : Int32} {v3 : Int32} {v4 : Int32} {β : Type} {K : β → mm_M → mm_E → Prop} {F : (Int32) → mm_M → mm_O β} {M : mm_M} {q : (β ⊕ Nat) × mm_M} {o : mm_E} (h : mm_B (mf_37_L5 v1 v2 (v3, v4) M) F = some q) (hA : mm_A K q o) (hx : ∀ (r : (Int32)) (M2 : mm_M), F r M2 = some q → (fun r M o => mp_37_78 L xs (d) r M o) r M2 o) : mp_37_5 L xs d v1 v2 v3 v4 M o := by
  unfold mf_37_L5 at h
  exact mm_R_loop (step := (fun s M => mf_37_b5 v1 v2 s.1 s.2 M)) (s := (v3, v4)) (M := M) (P := (fun s M o => mp_37_5 L xs (d) v1 v2 s.1 s.2 M o)) (X := (fun r M o => mp_37_78 L xs (d) r M o)) h hA (fun s M q hq hA => ms_37_b5 (v1 := v1) (v2 := v2) (v3 := s.1) (v4 := s.2) (M := M) (q := q) hd hq hA) hx
set_option maxRecDepth 8000 in
set_option maxHeartbeats 4000000 in
theorem ms_37 {L : Nat} {xs : Nat → Int32} {d : Nat} (hd : 0 ≤ d) {v1 : Int32} {v2 : Int32} {M : mm_M} {q : (Int32 ⊕ Nat) × mm_M} {o : mm_E} (h : mf_37 v1 v2 M = some q) (hA : mm_A (mm_Kr mm_wi) q o) : mm_Runs L xs d 37 (0, mm_ent (mm_ml 37) [.ref 0, .int v1, .int v2], [], M) o := by
  unfold mf_37 at h
  show mm_Runs L xs (d) 37 (0, [some (.ref 0), some (.int v1), some (.int v2), none, none, none], [], M) o
  refine mm_Runs.seq (l := [(0, .iconst (-1), 1), (1, .istore_n 3, 1), (2, .iconst 0, 1), (3, .istore 4, 2)]) (S2 := (5, [some (.ref 0), some (.int v1), some (.int v2), some (.int (-1 : Int32)), some (.int (0 : Int32)), none], [], M)) (by decide +kernel) (hO := mm_own_37) rfl ?_
  have hp : mp_37_5 L xs (d) v1 v2 (-1 : Int32) (0 : Int32) M o := by
    refine ms_37_L5 hd h hA (fun r2 M1 h => ?_)
    intro y3 y4 y5 y6 y7
    show mm_Runs L xs (d) 37 (78, [y3, y4, y5, some (.int r2), y6, y7], [], M1) o
    refine mm_Runs.seq (l := [(78, .iload_n 3, 1)]) (S2 := (79, [y3, y4, y5, some (.int r2), y6, y7], [.int r2], M1)) (by decide +kernel) (hO := mm_own_37) rfl ?_
    cases h
    exact mm_R_reti rfl rfl hA
  exact hp none
-- 36: PlainPacks.joinAll(I)V (depth 1)
theorem mm_own_36 : mm_own 36 = 0 := rfl
def mp_36_6 (L : Nat) (xs : Nat → Int32) (d : Nat) (v1 : Int32) (v2 : Int32) (v3 : Int32) (M : mm_M) (o : mm_E) : Prop := ∀ z4 z5 : Option Value, mm_Runs L xs d 36 (6, [some (.ref 0), some (.int v1), some (.int v2), some (.int v3), z4, z5], [], M) o
def mp_36_47 (L : Nat) (xs : Nat → Int32) (d : Nat) (M : mm_M) (o : mm_E) : Prop := ∀ z0 z1 z2 z3 z4 z5 : Option Value, mm_Runs L xs d 36 (47, [z0, z1, z2, z3, z4, z5], [], M) o
def mp_36_94 (L : Nat) (xs : Nat → Int32) (d : Nat) (M : mm_M) (o : mm_E) : Prop := ∀ z0 z1 z2 z3 z4 z5 : Option Value, mm_Runs L xs d 36 (94, [z0, z1, z2, z3, z4, z5], [], M) o
set_option maxRecDepth 8000 in
set_option maxHeartbeats 4000000 in
theorem ms_36_b6 {L : Nat} {xs : Nat → Int32} {d : Nat} (hd : 1 ≤ d) {v1 : Int32} {v2 : Int32} {v3 : Int32} {M : mm_M} {q : (((Int32 × Int32) ⊕ ((Unit) ⊕ (Unit))) ⊕ Nat) × mm_M} {o : mm_E} (h : mf_36_b6 v1 v2 v3 M = some q) (hA : mm_A (mm_K2 (fun s M o => mp_36_6 L xs (d) v1 s.1 s.2 M o) (fun r M o => mm_sm (fun r => mp_36_47 L xs (d) M o) (fun r => mp_36_94 L xs (d) M o) r)) q o) : mp_36_6 L xs d v1 v2 v3 M o := by
  unfold mf_36_b6 at h
  obtain ⟨d, rfl⟩ := mm_d1 (n := 0) hd
  intro z4 z5
  show mm_Runs L xs (d + 1) 36 (6, [some (.ref 0), some (.int v1), some (.int v2), some (.int v3), z4, z5], [], M) o
  refine mm_Runs.seq (l := [(6, .iload_n 3, 1), (7, .iload_n 1, 1)]) (S2 := (8, [some (.ref 0), some (.int v1), some (.int v2), some (.int v3), z4, z5], [.int v1, .int v3], M)) (by decide +kernel) (hO := mm_own_36) rfl ?_
  refine mm_R_ige (t := 94) rfl rfl rfl (fun hc => ?_) (fun hc => ?_)
  · replace h := mm_ip hc h
    refine mm_Runs.seq (l := [(11, .iload_n 2, 1), (12, .aload_n 0, 1), (13, .getfield 83, 3), (16, .arraylength, 1)]) (S2 := (17, [some (.ref 0), some (.int v1), some (.int v2), some (.int v3), z4, z5], [.int (511 : Int32), .int v2], M)) (by decide +kernel) (hO := mm_own_36) rfl ?_
    refine mm_R_ige (t := 94) rfl rfl rfl (fun hc => ?_) (fun hc => ?_)
    · replace h := mm_ip hc h
      refine mm_Runs.seq (l := [(20, .aload_n 0, 1), (21, .iload_n 2, 1), (22, .iconst (-1), 1)]) (S2 := (23, [some (.ref 0), some (.int v1), some (.int v2), some (.int v3), z4, z5], [.int (-1 : Int32), .int v2, .ref 0], M)) (by decide +kernel) (hO := mm_own_36) rfl ?_
      refine mm_R_call (v := mm_wi) h hA (k2 := 37) (as := [.ref 0, .int v2, .int (-1 : Int32)]) (r := []) rfl (fun _ => rfl) (fun q hq o ho => ms_37 (by omega) hq ho) (fun r1 M2 h => ?_)
      show mm_Runs L xs (d + 1) 36 (26, [some (.ref 0), some (.int v1), some (.int v2), some (.int v3), z4, z5], [.int r1], M2) o
      refine mm_Runs.seq (l := [(26, .istore 4, 2), (28, .aload_n 0, 1), (29, .iload_n 2, 1), (30, .iload 4, 2)]) (S2 := (32, [some (.ref 0), some (.int v1), some (.int v2), some (.int v3), some (.int r1), z5], [.int r1, .int v2, .ref 0], M2)) (by decide +kernel) (hO := mm_own_36) rfl ?_
      refine mm_R_call (v := mm_wi) h hA (k2 := 37) (as := [.ref 0, .int v2, .int r1]) (r := []) rfl (fun _ => rfl) (fun q hq o ho => ms_37 (by omega) hq ho) (fun r3 M4 h => ?_)
      show mm_Runs L xs (d + 1) 36 (35, [some (.ref 0), some (.int v1), some (.int v2), some (.int v3), some (.int r1), z5], [.int r3], M4) o
      refine mm_Runs.seq (l := [(35, .istore 5, 2), (37, .iload 4, 2)]) (S2 := (39, [some (.ref 0), some (.int v1), some (.int v2), some (.int v3), some (.int r1), some (.int r3)], [.int r1], M4)) (by decide +kernel) (hO := mm_own_36) rfl ?_
      refine mm_R_zlt (t := 47) rfl rfl rfl (fun hc => ?_) (fun hc => ?_)
      · replace h := mm_ip hc h
        cases h
        exact (show mp_36_47 L xs (d + 1) M4 o from hA) (some (.ref 0)) (some (.int v1)) (some (.int v2)) (some (.int v3)) (some (.int r1)) (some (.int r3))
      · replace h := mm_iq hc h
        refine mm_Runs.seq (l := [(42, .iload 5, 2)]) (S2 := (44, [some (.ref 0), some (.int v1), some (.int v2), some (.int v3), some (.int r1), some (.int r3)], [.int r3], M4)) (by decide +kernel) (hO := mm_own_36) rfl ?_
        refine mm_R_zge (t := 48) rfl rfl rfl (fun hc => ?_) (fun hc => ?_)
        · replace h := mm_ip hc h
          cases h
          exact (show mp_36_47 L xs (d + 1) M4 o from hA) (some (.ref 0)) (some (.int v1)) (some (.int v2)) (some (.int v3)) (some (.int r1)) (some (.int r3))
        · replace h := mm_iq hc h
          refine mm_Runs.seq (l := [(48, .aload_n 0, 1), (49, .getfield 83, 3), (52, .iload_n 2, 1), (53, .aload_n 0, 1), (54, .getfield 83, 3), (57, .iload 4, 2)]) (S2 := (59, [some (.ref 0), some (.int v1), some (.int v2), some (.int v3), some (.int r1), some (.int r3)], [.int r1, .ref 82, .int v2, .ref 82], M4)) (by decide +kernel) (hO := mm_own_36) rfl ?_
          obtain ⟨hb, h⟩ := mm_gd h
          refine mm_R_iald rfl rfl hb ?_
          refine mm_Runs.seq (l := [(60, .aload_n 0, 1), (61, .getfield 83, 3), (64, .iload 5, 2)]) (S2 := (66, [some (.ref 0), some (.int v1), some (.int v2), some (.int v3), some (.int r1), some (.int r3)], [.int r3, .ref 82, .int (M4.1 82 r1.toNatClampNeg), .int v2, .ref 82], M4)) (by decide +kernel) (hO := mm_own_36) rfl ?_
          obtain ⟨hb, h⟩ := mm_gd h
          refine mm_R_iald rfl rfl hb ?_
          refine mm_Runs.seq (l := [(67, .iadd, 1)]) (S2 := (68, [some (.ref 0), some (.int v1), some (.int v2), some (.int v3), some (.int r1), some (.int r3)], [.int ((M4.1 82 r1.toNatClampNeg) + (M4.1 82 r3.toNatClampNeg)), .int v2, .ref 82], M4)) (by decide +kernel) (hO := mm_own_36) rfl ?_
          obtain ⟨hb, h⟩ := mm_gd h
          refine mm_R_iast rfl rfl hb ?_
          refine mm_Runs.seq (l := [(69, .aload_n 0, 1), (70, .getfield 87, 3), (73, .iload 4, 2), (75, .iload_n 2, 1)]) (S2 := (76, [some (.ref 0), some (.int v1), some (.int v2), some (.int v3), some (.int r1), some (.int r3)], [.int v2, .int r1, .ref 83], (mm_pi M4 82 v2.toNatClampNeg ((M4.1 82 r1.toNatClampNeg) + (M4.1 82 r3.toNatClampNeg))))) (by decide +kernel) (hO := mm_own_36) rfl ?_
          obtain ⟨hb, h⟩ := mm_gd h
          refine mm_R_iast rfl rfl hb ?_
          refine mm_Runs.seq (l := [(77, .aload_n 0, 1), (78, .getfield 87, 3), (81, .iload 5, 2), (83, .iload_n 2, 1)]) (S2 := (84, [some (.ref 0), some (.int v1), some (.int v2), some (.int v3), some (.int r1), some (.int r3)], [.int v2, .int r3, .ref 83], (mm_pi (mm_pi M4 82 v2.toNatClampNeg ((M4.1 82 r1.toNatClampNeg) + (M4.1 82 r3.toNatClampNeg))) 83 r1.toNatClampNeg v2))) (by decide +kernel) (hO := mm_own_36) rfl ?_
          obtain ⟨hb, h⟩ := mm_gd h
          refine mm_R_iast rfl rfl hb ?_
          refine mm_Runs.seq (l := [(85, .iinc 2 1, 3), (88, .iinc 3 1, 3), (91, .goto (-85), 3)]) (S2 := (6, [some (.ref 0), some (.int v1), some (.int (v2 + (1 : Int32))), some (.int (v3 + (1 : Int32))), some (.int r1), some (.int r3)], [], (mm_pi (mm_pi (mm_pi M4 82 v2.toNatClampNeg ((M4.1 82 r1.toNatClampNeg) + (M4.1 82 r3.toNatClampNeg))) 83 r1.toNatClampNeg v2) 83 r3.toNatClampNeg v2))) (by decide +kernel) (hO := mm_own_36) rfl ?_
          cases h
          exact (show mp_36_6 L xs (d + 1) v1 (v2 + (1 : Int32)) (v3 + (1 : Int32)) (mm_pi (mm_pi (mm_pi M4 82 v2.toNatClampNeg ((M4.1 82 r1.toNatClampNeg) + (M4.1 82 r3.toNatClampNeg))) 83 r1.toNatClampNeg v2) 83 r3.toNatClampNeg v2) o from hA) (some (.int r1)) (some (.int r3))
    · replace h := mm_iq hc h
      cases h
      exact (show mp_36_94 L xs (d + 1) M o from hA) (some (.ref 0)) (some (.int v1)) (some (.int v2)) (some (.int v3)) z4 z5
  · replace h := mm_iq hc h
    cases h
    exact (show mp_36_94 L xs (d + 1) M o from hA) (some (.ref 0)) (some (.int v1)) (some (.int v2)) (some (.int v3)) z4 z5
theorem ms_36_L6 {L : Nat} {xs : Nat → Int32} {d : Nat} (hd : 1 ≤ d) {v1 : Int32} {v2 : Int32} {v3 : Int32} {β : Type} {K : β → mm_M → mm_E → Prop} {F : ((Unit) ⊕ (Unit)) → mm_M → mm_O β} {M : mm_M} {q : (β ⊕ Nat) × mm_M} {o : mm_E} (h : mm_B (mf_36_L6 v1 (v2, v3) M) F = some q) (hA : mm_A K q o) (hx : ∀ (r : ((Unit) ⊕ (Unit))) (M2 : mm_M), F r M2 = some q → (fun r M o => mm_sm (fun r => mp_36_47 L xs (d) M o) (fun r => mp_36_94 L xs (d) M o) r) r M2 o) : mp_36_6 L xs d v1 v2 v3 M o := by
  unfold mf_36_L6 at h
  exact mm_R_loop (step := (fun s M => mf_36_b6 v1 s.1 s.2 M)) (s := (v2, v3)) (M := M) (P := (fun s M o => mp_36_6 L xs (d) v1 s.1 s.2 M o)) (X := (fun r M o => mm_sm (fun r => mp_36_47 L xs (d) M o) (fun r => mp_36_94 L xs (d) M o) r)) h hA (fun s M q hq hA => ms_36_b6 (v1 := v1) (v2 := s.1) (v3 := s.2) (M := M) (q := q) hd hq hA) hx
set_option maxRecDepth 8000 in
set_option maxHeartbeats 4000000 in
theorem ms_36 {L : Nat} {xs : Nat → Int32} {d : Nat} (hd : 1 ≤ d) {v1 : Int32} {M : mm_M} {q : (Unit ⊕ Nat) × mm_M} {o : mm_E} (h : mf_36 v1 M = some q) (hA : mm_A (mm_Kr mm_wv) q o) : mm_Runs L xs d 36 (0, mm_ent (mm_ml 36) [.ref 0, .int v1], [], M) o := by
  unfold mf_36 at h
  obtain ⟨d, rfl⟩ := mm_d1 (n := 0) hd
  show mm_Runs L xs (d + 1) 36 (0, [some (.ref 0), some (.int v1), none, none, none, none], [], M) o
  refine mm_Runs.seq (l := [(0, .sipush 256, 3), (3, .istore_n 2, 1), (4, .iconst 1, 1), (5, .istore_n 3, 1)]) (S2 := (6, [some (.ref 0), some (.int v1), some (.int (256 : Int32)), some (.int (1 : Int32)), none, none], [], M)) (by decide +kernel) (hO := mm_own_36) rfl ?_
  have hp : mp_36_6 L xs (d + 1) v1 (256 : Int32) (1 : Int32) M o := by
    refine ms_36_L6 hd h hA (fun r2 M1 h => ?_)
    rcases r2 with r2 | r2
    · dsimp only [mm_sm] at h
      intro y3 y4 y5 y6 y7 y8
      show mm_Runs L xs (d + 1) 36 (47, [y3, y4, y5, y6, y7, y8], [], M1) o
      cases h
      exact mm_R_retv rfl rfl hA
    · dsimp only [mm_sm] at h
      intro y9 y10 y11 y12 y13 y14
      show mm_Runs L xs (d + 1) 36 (94, [y9, y10, y11, y12, y13, y14], [], M1) o
      cases h
      exact mm_R_retv rfl rfl hA
  exact hp none none
-- 38: PlainPacks.depthOf(I)I (depth 0)
theorem mm_own_38 : mm_own 38 = 0 := rfl
def mp_38_12 (L : Nat) (xs : Nat → Int32) (d : Nat) (v2 : Int32) (v3 : Int32) (v4 : Int32) (M : mm_M) (o : mm_E) : Prop := ∀ z1 : Option Value, mm_Runs L xs d 38 (12, [some (.ref 0), z1, some (.int v2), some (.int v3), some (.int v4)], [], M) o
def mp_38_42 (L : Nat) (xs : Nat → Int32) (d : Nat) (v2 : Int32) (M : mm_M) (o : mm_E) : Prop := ∀ z0 z1 z3 z4 : Option Value, mm_Runs L xs d 38 (42, [z0, z1, some (.int v2), z3, z4], [], M) o
set_option maxRecDepth 8000 in
set_option maxHeartbeats 4000000 in
theorem ms_38_b12 {L : Nat} {xs : Nat → Int32} {d : Nat} (hd : 0 ≤ d) {v2 : Int32} {v3 : Int32} {v4 : Int32} {M : mm_M} {q : (((Int32 × Int32 × Int32) ⊕ (Int32)) ⊕ Nat) × mm_M} {o : mm_E} (h : mf_38_b12 v2 v3 v4 M = some q) (hA : mm_A (mm_K2 (fun s M o => mp_38_12 L xs (d) s.1 s.2.1 s.2.2 M o) (fun r M o => mp_38_42 L xs (d) r M o)) q o) : mp_38_12 L xs d v2 v3 v4 M o := by
  unfold mf_38_b12 at h
  intro z1
  show mm_Runs L xs (d) 38 (12, [some (.ref 0), z1, some (.int v2), some (.int v3), some (.int v4)], [], M) o
  refine mm_Runs.seq (l := [(12, .iload 4, 2), (14, .aload_n 0, 1), (15, .getfield 87, 3), (18, .arraylength, 1)]) (S2 := (19, [some (.ref 0), z1, some (.int v2), some (.int v3), some (.int v4)], [.int (511 : Int32), .int v4], M)) (by decide +kernel) (hO := mm_own_38) rfl ?_
  refine mm_R_ige (t := 42) rfl rfl rfl (fun hc => ?_) (fun hc => ?_)
  · replace h := mm_ip hc h
    refine mm_Runs.seq (l := [(22, .iload_n 3, 1)]) (S2 := (23, [some (.ref 0), z1, some (.int v2), some (.int v3), some (.int v4)], [.int v3], M)) (by decide +kernel) (hO := mm_own_38) rfl ?_
    refine mm_R_zle (t := 42) rfl rfl rfl (fun hc => ?_) (fun hc => ?_)
    · replace h := mm_ip hc h
      refine mm_Runs.seq (l := [(26, .iinc 2 1, 3), (29, .aload_n 0, 1), (30, .getfield 87, 3), (33, .iload_n 3, 1)]) (S2 := (34, [some (.ref 0), (mm_no2 z1), some (.int (v2 + (1 : Int32))), some (.int v3), some (.int v4)], [.int v3, .ref 83], M)) (by decide +kernel) (hO := mm_own_38) rfl ?_
      obtain ⟨hb, h⟩ := mm_gd h
      refine mm_R_iald rfl rfl hb ?_
      refine mm_Runs.seq (l := [(35, .istore_n 3, 1), (36, .iinc 4 1, 3), (39, .goto (-27), 3)]) (S2 := (12, [some (.ref 0), (mm_no2 z1), some (.int (v2 + (1 : Int32))), some (.int (M.1 83 v3.toNatClampNeg)), some (.int (v4 + (1 : Int32)))], [], M)) (by decide +kernel) (hO := mm_own_38) rfl ?_
      cases h
      exact (show mp_38_12 L xs (d) (v2 + (1 : Int32)) (M.1 83 v3.toNatClampNeg) (v4 + (1 : Int32)) M o from hA) ((mm_no2 z1))
    · replace h := mm_iq hc h
      cases h
      exact (show mp_38_42 L xs (d) v2 M o from hA) (some (.ref 0)) z1 (some (.int v3)) (some (.int v4))
  · replace h := mm_iq hc h
    cases h
    exact (show mp_38_42 L xs (d) v2 M o from hA) (some (.ref 0)) z1 (some (.int v3)) (some (.int v4))
theorem ms_38_L12 {L : Nat} {xs : Nat → Int32} {d : Nat} (hd : 0 ≤ d) {v2 : Int32} {v3 : Int32} {v4 : Int32} {β : Type} {K : β → mm_M → mm_E → Prop} {F : (Int32) → mm_M → mm_O β} {M : mm_M} {q : (β ⊕ Nat) × mm_M} {o : mm_E} (h : mm_B (mf_38_L12 (v2, v3, v4) M) F = some q) (hA : mm_A K q o) (hx : ∀ (r : (Int32)) (M2 : mm_M), F r M2 = some q → (fun r M o => mp_38_42 L xs (d) r M o) r M2 o) : mp_38_12 L xs d v2 v3 v4 M o := by
  unfold mf_38_L12 at h
  exact mm_R_loop (step := (fun s M => mf_38_b12 s.1 s.2.1 s.2.2 M)) (s := (v2, v3, v4)) (M := M) (P := (fun s M o => mp_38_12 L xs (d) s.1 s.2.1 s.2.2 M o)) (X := (fun r M o => mp_38_42 L xs (d) r M o)) h hA (fun s M q hq hA => ms_38_b12 (v2 := s.1) (v3 := s.2.1) (v4 := s.2.2) (M := M) (q := q) hd hq hA) hx
set_option maxRecDepth 8000 in
set_option maxHeartbeats 4000000 in
theorem ms_38 {L : Nat} {xs : Nat → Int32} {d : Nat} (hd : 0 ≤ d) {v1 : Int32} {M : mm_M} {q : (Int32 ⊕ Nat) × mm_M} {o : mm_E} (h : mf_38 v1 M = some q) (hA : mm_A (mm_Kr mm_wi) q o) : mm_Runs L xs d 38 (0, mm_ent (mm_ml 38) [.ref 0, .int v1], [], M) o := by
  unfold mf_38 at h
  show mm_Runs L xs (d) 38 (0, [some (.ref 0), some (.int v1), none, none, none], [], M) o
  refine mm_Runs.seq (l := [(0, .iconst 0, 1), (1, .istore_n 2, 1), (2, .aload_n 0, 1), (3, .getfield 87, 3), (6, .iload_n 1, 1)]) (S2 := (7, [some (.ref 0), some (.int v1), some (.int (0 : Int32)), none, none], [.int v1, .ref 83], M)) (by decide +kernel) (hO := mm_own_38) rfl ?_
  obtain ⟨hb, h⟩ := mm_gd h
  refine mm_R_iald rfl rfl hb ?_
  refine mm_Runs.seq (l := [(8, .istore_n 3, 1), (9, .iconst 0, 1), (10, .istore 4, 2)]) (S2 := (12, [some (.ref 0), some (.int v1), some (.int (0 : Int32)), some (.int (M.1 83 v1.toNatClampNeg)), some (.int (0 : Int32))], [], M)) (by decide +kernel) (hO := mm_own_38) rfl ?_
  have hp : mp_38_12 L xs (d) (0 : Int32) (M.1 83 v1.toNatClampNeg) (0 : Int32) M o := by
    refine ms_38_L12 hd h hA (fun r2 M1 h => ?_)
    intro y3 y4 y5 y6
    show mm_Runs L xs (d) 38 (42, [y3, y4, some (.int r2), y5, y6], [], M1) o
    refine mm_Runs.seq (l := [(42, .iload_n 2, 1)]) (S2 := (43, [y3, y4, some (.int r2), y5, y6], [.int r2], M1)) (by decide +kernel) (hO := mm_own_38) rfl ?_
    cases h
    exact mm_R_reti rfl rfl hA
  exact hp (some (.int v1))
-- 23: PlainPacks.length(I)I (depth 7)
theorem mm_own_23 : mm_own 23 = 0 := rfl
set_option maxRecDepth 8000 in
set_option maxHeartbeats 4000000 in
theorem ms_23 {L : Nat} {xs : Nat → Int32} {d : Nat} (hd : 7 ≤ d) {v1 : Int32} {M : mm_M} {q : (Int32 ⊕ Nat) × mm_M} {o : mm_E} (h : mf_23 v1 M = some q) (hA : mm_A (mm_Kr mm_wi) q o) : mm_Runs L xs d 23 (0, mm_ent (mm_ml 23) [.ref 0, .int v1], [], M) o := by
  unfold mf_23 at h
  obtain ⟨d, rfl⟩ := mm_d1 (n := 6) hd
  show mm_Runs L xs (d + 1) 23 (0, [some (.ref 0), some (.int v1), none], [], M) o
  refine mm_Runs.seq (l := [(0, .iload_n 1, 1)]) (S2 := (1, [some (.ref 0), some (.int v1), none], [.int v1], M)) (by decide +kernel) (hO := mm_own_23) rfl ?_
  refine mm_R_zlt (t := 11) rfl rfl rfl (fun hc => ?_) (fun hc => ?_)
  · replace h := mm_ip hc h
    cases h
    exact mm_R_thr rfl rfl rfl (by omega) hA
  · replace h := mm_iq hc h
    refine mm_Runs.seq (l := [(4, .iload_n 1, 1), (5, .sipush 255, 3)]) (S2 := (8, [some (.ref 0), some (.int v1), none], [.int (255 : Int32), .int v1], M)) (by decide +kernel) (hO := mm_own_23) rfl ?_
    refine mm_R_ile (t := 21) rfl rfl rfl (fun hc => ?_) (fun hc => ?_)
    · replace h := mm_ip hc h
      cases h
      exact mm_R_thr rfl rfl rfl (by omega) hA
    · replace h := mm_iq hc h
      refine mm_Runs.seq (l := [(21, .aload_n 0, 1)]) (S2 := (22, [some (.ref 0), some (.int v1), none], [.ref 0], M)) (by decide +kernel) (hO := mm_own_23) rfl ?_
      refine mm_R_call (v := mm_wi) h hA (k2 := 35) (as := [.ref 0]) (r := []) rfl (fun _ => rfl) (fun q hq o ho => ms_35 (by omega) hq ho) (fun r1 M2 h => ?_)
      show mm_Runs L xs (d + 1) 23 (25, [some (.ref 0), some (.int v1), none], [.int r1], M2) o
      refine mm_Runs.seq (l := [(25, .istore_n 2, 1), (26, .aload_n 0, 1), (27, .getfield 83, 3), (30, .iload_n 1, 1)]) (S2 := (31, [some (.ref 0), some (.int v1), some (.int r1)], [.int v1, .ref 82], M2)) (by decide +kernel) (hO := mm_own_23) rfl ?_
      obtain ⟨hb, h⟩ := mm_gd h
      refine mm_R_iald rfl rfl hb ?_
      refine mm_R_zne (t := 37) rfl rfl rfl (fun hc => ?_) (fun hc => ?_)
      · replace h := mm_ip hc h
        refine mm_Runs.seq (l := [(35, .iconst 0, 1)]) (S2 := (36, [some (.ref 0), some (.int v1), some (.int r1)], [.int (0 : Int32)], M2)) (by decide +kernel) (hO := mm_own_23) rfl ?_
        cases h
        exact mm_R_reti rfl rfl hA
      · replace h := mm_iq hc h
        refine mm_Runs.seq (l := [(37, .iload_n 2, 1), (38, .iconst 1, 1)]) (S2 := (39, [some (.ref 0), some (.int v1), some (.int r1)], [.int (1 : Int32), .int r1], M2)) (by decide +kernel) (hO := mm_own_23) rfl ?_
        refine mm_R_ine (t := 44) rfl rfl rfl (fun hc => ?_) (fun hc => ?_)
        · replace h := mm_ip hc h
          refine mm_Runs.seq (l := [(42, .iconst 1, 1)]) (S2 := (43, [some (.ref 0), some (.int v1), some (.int r1)], [.int (1 : Int32)], M2)) (by decide +kernel) (hO := mm_own_23) rfl ?_
          cases h
          exact mm_R_reti rfl rfl hA
        · replace h := mm_iq hc h
          refine mm_Runs.seq (l := [(44, .aload_n 0, 1), (45, .iload_n 2, 1)]) (S2 := (46, [some (.ref 0), some (.int v1), some (.int r1)], [.int r1, .ref 0], M2)) (by decide +kernel) (hO := mm_own_23) rfl ?_
          refine mm_R_call (v := mm_wv) h hA (k2 := 36) (as := [.ref 0, .int r1]) (r := []) rfl (fun _ => rfl) (fun q hq o ho => ms_36 (by omega) hq ho) (fun _ M3 h => ?_)
          show mm_Runs L xs (d + 1) 23 (49, [some (.ref 0), some (.int v1), some (.int r1)], [], M3) o
          refine mm_Runs.seq (l := [(49, .aload_n 0, 1), (50, .iload_n 1, 1)]) (S2 := (51, [some (.ref 0), some (.int v1), some (.int r1)], [.int v1, .ref 0], M3)) (by decide +kernel) (hO := mm_own_23) rfl ?_
          refine mm_R_call (v := mm_wi) h hA (k2 := 38) (as := [.ref 0, .int v1]) (r := []) rfl (fun _ => rfl) (fun q hq o ho => ms_38 (by omega) hq ho) (fun r4 M5 h => ?_)
          show mm_Runs L xs (d + 1) 23 (54, [some (.ref 0), some (.int v1), some (.int r1)], [.int r4], M5) o
          cases h
          exact mm_R_reti rfl rfl hA
-- 9: PlainPacksLaw.length(LPlainPacks;I[J)I (depth 8)
theorem mm_own_9 : mm_own 9 = 13 := rfl
set_option maxRecDepth 8000 in
set_option maxHeartbeats 4000000 in
theorem ms_9 {L : Nat} {xs : Nat → Int32} {d : Nat} (hd : 8 ≤ d) {v1 : Int32} {M : mm_M} {q : (Int32 ⊕ Nat) × mm_M} {o : mm_E} (h : mf_9 v1 M = some q) (hA : mm_A (mm_Kr mm_wi) q o) : mm_Runs L xs d 9 (0, mm_ent (mm_ml 9) [.ref 0, .int v1, .ref 110], [], M) o := by
  unfold mf_9 at h
  obtain ⟨d, rfl⟩ := mm_d1 (n := 7) hd
  show mm_Runs L xs (d + 1) 9 (0, [some (.ref 0), some (.int v1), some (.ref 110), none], [], M) o
  refine mm_Runs.seq (l := [(0, .aload_n 2, 1), (1, .iconst 0, 1), (2, .aload_n 0, 1), (3, .iload_n 1, 1)]) (S2 := (4, [some (.ref 0), some (.int v1), some (.ref 110), none], [.int v1, .ref 0, .int (0 : Int32), .ref 110], M)) (by decide +kernel) (hO := mm_own_9) rfl ?_
  refine mm_R_callc (v := mm_wi) (X := 1) (hh := 13) (i := 3) h hA (k2 := 23) (as := [.ref 0, .int v1]) (r := [.int (0 : Int32), .ref 110]) rfl rfl rfl (fun q hq o ho => ms_23 (by omega) hq ho) (fun r1 M2 h => ?_) (fun M3 h => ?_)
  · show mm_Runs L xs (d + 1) 9 (7, [some (.ref 0), some (.int v1), some (.ref 110), none], [.int r1, .int (0 : Int32), .ref 110], M2) o
    refine mm_Runs.seq (l := [(7, .i2l, 1)]) (S2 := (8, [some (.ref 0), some (.int v1), some (.ref 110), none], [.long r1.toInt64, .int (0 : Int32), .ref 110], M2)) (by decide +kernel) (hO := mm_own_9) rfl ?_
    obtain ⟨hb, h⟩ := mm_gd h
    refine mm_R_last rfl rfl hb ?_
    refine mm_Runs.seq (l := [(9, .goto 6, 3), (15, .iconst 0, 1)]) (S2 := (16, [some (.ref 0), some (.int v1), some (.ref 110), none], [.int (0 : Int32)], (mm_pl M2 110 (0 : Int32).toNatClampNeg r1.toInt64))) (by decide +kernel) (hO := mm_own_9) rfl ?_
    cases h
    exact mm_R_reti rfl rfl hA
  · show mm_Runs L xs (d + 1) 9 (13, [some (.ref 0), some (.int v1), some (.ref 110), none], [], M3) o
    refine mm_Runs.seq (l := [(13, .iconst 1, 1)]) (S2 := (14, [some (.ref 0), some (.int v1), some (.ref 110), none], [.int (1 : Int32)], M3)) (by decide +kernel) (hO := mm_own_9) rfl ?_
    cases h
    exact mm_R_reti rfl rfl hA
-- 288: PlainPacksModel.lightest(I)I (depth 0)
theorem mm_own_288 : mm_own 288 = 12 := rfl
def mp_288_4 (L : Nat) (xs : Nat → Int32) (d : Nat) (v1 : Int32) (v2 : Int32) (v3 : Int32) (M : mm_M) (o : mm_E) : Prop := mm_Runs L xs d 288 (4, [some (.ref 84), some (.int v1), some (.int v2), some (.int v3)], [], M) o
def mp_288_55 (L : Nat) (xs : Nat → Int32) (d : Nat) (v2 : Int32) (M : mm_M) (o : mm_E) : Prop := ∀ z0 z1 z3 : Option Value, mm_Runs L xs d 288 (55, [z0, z1, some (.int v2), z3], [], M) o
set_option maxRecDepth 8000 in
set_option maxHeartbeats 4000000 in
theorem ms_288_b4 {L : Nat} {xs : Nat → Int32} {d : Nat} (hd : 0 ≤ d) {v1 : Int32} {v2 : Int32} {v3 : Int32} {M : mm_M} {q : (((Int32 × Int32) ⊕ (Int32)) ⊕ Nat) × mm_M} {o : mm_E} (h : mf_288_b4 v1 v2 v3 M = some q) (hA : mm_A (mm_K2 (fun s M o => mp_288_4 L xs (d) v1 s.1 s.2 M o) (fun r M o => mp_288_55 L xs (d) r M o)) q o) : mp_288_4 L xs d v1 v2 v3 M o := by
  unfold mf_288_b4 at h
  show mm_Runs L xs (d) 288 (4, [some (.ref 84), some (.int v1), some (.int v2), some (.int v3)], [], M) o
  refine mm_Runs.seq (l := [(4, .iload_n 3, 1), (5, .iload_n 1, 1)]) (S2 := (6, [some (.ref 84), some (.int v1), some (.int v2), some (.int v3)], [.int v1, .int v3], M)) (by decide +kernel) (hO := mm_own_288) rfl ?_
  refine mm_R_ige (t := 55) rfl rfl rfl (fun hc => ?_) (fun hc => ?_)
  · replace h := mm_ip hc h
    refine mm_Runs.seq (l := [(9, .aload_n 0, 1), (10, .getfield 81, 3), (13, .iload_n 3, 1)]) (S2 := (14, [some (.ref 84), some (.int v1), some (.int v2), some (.int v3)], [.int v3, .ref 108], M)) (by decide +kernel) (hO := mm_own_288) rfl ?_
    obtain ⟨hb, h⟩ := mm_gd h
    refine mm_R_iald rfl rfl hb ?_
    refine mm_R_zle (t := 49) rfl rfl rfl (fun hc => ?_) (fun hc => ?_)
    · replace h := mm_ip hc h
      refine mm_Runs.seq (l := [(18, .aload_n 0, 1), (19, .getfield 84, 3), (22, .iload_n 3, 1)]) (S2 := (23, [some (.ref 84), some (.int v1), some (.int v2), some (.int v3)], [.int v3, .ref 109], M)) (by decide +kernel) (hO := mm_own_288) rfl ?_
      obtain ⟨hb, h⟩ := mm_gd h
      refine mm_R_iald rfl rfl hb ?_
      refine mm_R_zne (t := 49) rfl rfl rfl (fun hc => ?_) (fun hc => ?_)
      · replace h := mm_ip hc h
        refine mm_Runs.seq (l := [(27, .iload_n 2, 1), (28, .iconst (-1), 1)]) (S2 := (29, [some (.ref 84), some (.int v1), some (.int v2), some (.int v3)], [.int (-1 : Int32), .int v2], M)) (by decide +kernel) (hO := mm_own_288) rfl ?_
        refine mm_R_ieq (t := 47) rfl rfl rfl (fun hc => ?_) (fun hc => ?_)
        · replace h := mm_ip hc h
          refine mm_Runs.seq (l := [(47, .iload_n 3, 1), (48, .istore_n 2, 1), (49, .iinc 3 1, 3), (52, .goto (-48), 3)]) (S2 := (4, [some (.ref 84), some (.int v1), some (.int v3), some (.int (v3 + (1 : Int32)))], [], M)) (by decide +kernel) (hO := mm_own_288) rfl ?_
          cases h
          exact (show mp_288_4 L xs (d) v1 v3 (v3 + (1 : Int32)) M o from hA)
        · replace h := mm_iq hc h
          refine mm_Runs.seq (l := [(32, .aload_n 0, 1), (33, .getfield 81, 3), (36, .iload_n 3, 1)]) (S2 := (37, [some (.ref 84), some (.int v1), some (.int v2), some (.int v3)], [.int v3, .ref 108], M)) (by decide +kernel) (hO := mm_own_288) rfl ?_
          obtain ⟨hb, h⟩ := mm_gd h
          refine mm_R_iald rfl rfl hb ?_
          refine mm_Runs.seq (l := [(38, .aload_n 0, 1), (39, .getfield 81, 3), (42, .iload_n 2, 1)]) (S2 := (43, [some (.ref 84), some (.int v1), some (.int v2), some (.int v3)], [.int v2, .ref 108, .int (M.1 108 v3.toNatClampNeg)], M)) (by decide +kernel) (hO := mm_own_288) rfl ?_
          obtain ⟨hb, h⟩ := mm_gd h
          refine mm_R_iald rfl rfl hb ?_
          refine mm_R_ige (t := 49) rfl rfl rfl (fun hc => ?_) (fun hc => ?_)
          · replace h := mm_ip hc h
            refine mm_Runs.seq (l := [(47, .iload_n 3, 1), (48, .istore_n 2, 1), (49, .iinc 3 1, 3), (52, .goto (-48), 3)]) (S2 := (4, [some (.ref 84), some (.int v1), some (.int v3), some (.int (v3 + (1 : Int32)))], [], M)) (by decide +kernel) (hO := mm_own_288) rfl ?_
            cases h
            exact (show mp_288_4 L xs (d) v1 v3 (v3 + (1 : Int32)) M o from hA)
          · replace h := mm_iq hc h
            refine mm_Runs.seq (l := [(49, .iinc 3 1, 3), (52, .goto (-48), 3)]) (S2 := (4, [some (.ref 84), some (.int v1), some (.int v2), some (.int (v3 + (1 : Int32)))], [], M)) (by decide +kernel) (hO := mm_own_288) rfl ?_
            cases h
            exact (show mp_288_4 L xs (d) v1 v2 (v3 + (1 : Int32)) M o from hA)
      · replace h := mm_iq hc h
        refine mm_Runs.seq (l := [(49, .iinc 3 1, 3), (52, .goto (-48), 3)]) (S2 := (4, [some (.ref 84), some (.int v1), some (.int v2), some (.int (v3 + (1 : Int32)))], [], M)) (by decide +kernel) (hO := mm_own_288) rfl ?_
        cases h
        exact (show mp_288_4 L xs (d) v1 v2 (v3 + (1 : Int32)) M o from hA)
    · replace h := mm_iq hc h
      refine mm_Runs.seq (l := [(49, .iinc 3 1, 3), (52, .goto (-48), 3)]) (S2 := (4, [some (.ref 84), some (.int v1), some (.int v2), some (.int (v3 + (1 : Int32)))], [], M)) (by decide +kernel) (hO := mm_own_288) rfl ?_
      cases h
      exact (show mp_288_4 L xs (d) v1 v2 (v3 + (1 : Int32)) M o from hA)
  · replace h := mm_iq hc h
    cases h
    exact (show mp_288_55 L xs (d) v2 M o from hA) (some (.ref 84)) (some (.int v1)) (some (.int v3))
theorem ms_288_L4 {L : Nat} {xs : Nat → Int32} {d : Nat} (hd : 0 ≤ d) {v1 : Int32} {v2 : Int32} {v3 : Int32} {β : Type} {K : β → mm_M → mm_E → Prop} {F : (Int32) → mm_M → mm_O β} {M : mm_M} {q : (β ⊕ Nat) × mm_M} {o : mm_E} (h : mm_B (mf_288_L4 v1 (v2, v3) M) F = some q) (hA : mm_A K q o) (hx : ∀ (r : (Int32)) (M2 : mm_M), F r M2 = some q → (fun r M o => mp_288_55 L xs (d) r M o) r M2 o) : mp_288_4 L xs d v1 v2 v3 M o := by
  unfold mf_288_L4 at h
  exact mm_R_loop (step := (fun s M => mf_288_b4 v1 s.1 s.2 M)) (s := (v2, v3)) (M := M) (P := (fun s M o => mp_288_4 L xs (d) v1 s.1 s.2 M o)) (X := (fun r M o => mp_288_55 L xs (d) r M o)) h hA (fun s M q hq hA => ms_288_b4 (v1 := v1) (v2 := s.1) (v3 := s.2) (M := M) (q := q) hd hq hA) hx
set_option maxRecDepth 8000 in
set_option maxHeartbeats 4000000 in
theorem ms_288 {L : Nat} {xs : Nat → Int32} {d : Nat} (hd : 0 ≤ d) {v1 : Int32} {M : mm_M} {q : (Int32 ⊕ Nat) × mm_M} {o : mm_E} (h : mf_288 v1 M = some q) (hA : mm_A (mm_Kr mm_wi) q o) : mm_Runs L xs d 288 (0, mm_ent (mm_ml 288) [.ref 84, .int v1], [], M) o := by
  unfold mf_288 at h
  show mm_Runs L xs (d) 288 (0, [some (.ref 84), some (.int v1), none, none], [], M) o
  refine mm_Runs.seq (l := [(0, .iconst (-1), 1), (1, .istore_n 2, 1), (2, .iconst 0, 1), (3, .istore_n 3, 1)]) (S2 := (4, [some (.ref 84), some (.int v1), some (.int (-1 : Int32)), some (.int (0 : Int32))], [], M)) (by decide +kernel) (hO := mm_own_288) rfl ?_
  have hp : mp_288_4 L xs (d) v1 (-1 : Int32) (0 : Int32) M o := by
    refine ms_288_L4 hd h hA (fun r2 M1 h => ?_)
    intro y3 y4 y5
    show mm_Runs L xs (d) 288 (55, [y3, y4, some (.int r2), y5], [], M1) o
    refine mm_Runs.seq (l := [(55, .iload_n 2, 1)]) (S2 := (56, [y3, y4, some (.int r2), y5], [.int r2], M1)) (by decide +kernel) (hO := mm_own_288) rfl ?_
    cases h
    exact mm_R_reti rfl rfl hA
  exact hp
-- 289: PlainPacksModel.length(I)I (depth 1)
theorem mm_own_289 : mm_own 289 = 12 := rfl
def mp_289_16 (L : Nat) (xs : Nat → Int32) (d : Nat) (v1 : Int32) (M : mm_M) (o : mm_E) : Prop := ∀ z2 z3 z4 z5 : Option Value, mm_Runs L xs d 289 (16, [some (.ref 84), some (.int v1), z2, z3, z4, z5], [.ref 84], M) o
def mp_289_17 (L : Nat) (xs : Nat → Int32) (d : Nat) (v1 : Int32) (s1 : Int32) (M : mm_M) (o : mm_E) : Prop := ∀ z2 z3 z4 z5 : Option Value, mm_Runs L xs d 289 (17, [some (.ref 84), some (.int v1), z2, z3, z4, z5], [.int s1, .ref 84], M) o
def mp_289_27 (L : Nat) (xs : Nat → Int32) (d : Nat) (v1 : Int32) (v2 : Int32) (M : mm_M) (o : mm_E) : Prop := ∀ z3 z4 z5 : Option Value, mm_Runs L xs d 289 (27, [some (.ref 84), some (.int v1), some (.int v2), z3, z4, z5], [], M) o
def mp_289_54 (L : Nat) (xs : Nat → Int32) (d : Nat) (v1 : Int32) (M : mm_M) (o : mm_E) : Prop := ∀ z2 z3 z4 z5 : Option Value, mm_Runs L xs d 289 (54, [some (.ref 84), some (.int v1), z2, z3, z4, z5], [], M) o
set_option maxRecDepth 8000 in
set_option maxHeartbeats 4000000 in
theorem ms_289_b27 {L : Nat} {xs : Nat → Int32} {d : Nat} (hd : 1 ≤ d) {v1 : Int32} {v2 : Int32} {M : mm_M} {q : (((Int32) ⊕ (Unit)) ⊕ Nat) × mm_M} {o : mm_E} (h : mf_289_b27 v1 v2 M = some q) (hA : mm_A (mm_K2 (fun s M o => mp_289_27 L xs (d) v1 s M o) (fun r M o => mp_289_54 L xs (d) v1 M o)) q o) : mp_289_27 L xs d v1 v2 M o := by
  unfold mf_289_b27 at h
  obtain ⟨d, rfl⟩ := mm_d1 (n := 0) hd
  intro z3 z4 z5
  show mm_Runs L xs (d + 1) 289 (27, [some (.ref 84), some (.int v1), some (.int v2), z3, z4, z5], [], M) o
  refine mm_Runs.seq (l := [(27, .iload_n 2, 1), (28, .sipush 512, 3)]) (S2 := (31, [some (.ref 84), some (.int v1), some (.int v2), z3, z4, z5], [.int (512 : Int32), .int v2], M)) (by decide +kernel) (hO := mm_own_289) rfl ?_
  refine mm_R_ige (t := 54) rfl rfl rfl (fun hc => ?_) (fun hc => ?_)
  · replace h := mm_ip hc h
    refine mm_Runs.seq (l := [(34, .aload_n 0, 1), (35, .getfield 81, 3), (38, .iload_n 2, 1), (39, .iconst 0, 1)]) (S2 := (40, [some (.ref 84), some (.int v1), some (.int v2), z3, z4, z5], [.int (0 : Int32), .int v2, .ref 108], M)) (by decide +kernel) (hO := mm_own_289) rfl ?_
    obtain ⟨hb, h⟩ := mm_gd h
    refine mm_R_iast rfl rfl hb ?_
    refine mm_Runs.seq (l := [(41, .aload_n 0, 1), (42, .getfield 84, 3), (45, .iload_n 2, 1), (46, .iconst 0, 1)]) (S2 := (47, [some (.ref 84), some (.int v1), some (.int v2), z3, z4, z5], [.int (0 : Int32), .int v2, .ref 109], (mm_pi M 108 v2.toNatClampNeg (0 : Int32)))) (by decide +kernel) (hO := mm_own_289) rfl ?_
    obtain ⟨hb, h⟩ := mm_gd h
    refine mm_R_iast rfl rfl hb ?_
    refine mm_Runs.seq (l := [(48, .iinc 2 1, 3), (51, .goto (-24), 3)]) (S2 := (27, [some (.ref 84), some (.int v1), some (.int (v2 + (1 : Int32))), z3, z4, z5], [], (mm_pi (mm_pi M 108 v2.toNatClampNeg (0 : Int32)) 109 v2.toNatClampNeg (0 : Int32)))) (by decide +kernel) (hO := mm_own_289) rfl ?_
    cases h
    exact (show mp_289_27 L xs (d + 1) v1 (v2 + (1 : Int32)) (mm_pi (mm_pi M 108 v2.toNatClampNeg (0 : Int32)) 109 v2.toNatClampNeg (0 : Int32)) o from hA) z3 z4 z5
  · replace h := mm_iq hc h
    cases h
    exact (show mp_289_54 L xs (d + 1) v1 M o from hA) (some (.int v2)) z3 z4 z5
theorem ms_289_L27 {L : Nat} {xs : Nat → Int32} {d : Nat} (hd : 1 ≤ d) {v1 : Int32} {v2 : Int32} {β : Type} {K : β → mm_M → mm_E → Prop} {F : (Unit) → mm_M → mm_O β} {M : mm_M} {q : (β ⊕ Nat) × mm_M} {o : mm_E} (h : mm_B (mf_289_L27 v1 v2 M) F = some q) (hA : mm_A K q o) (hx : ∀ (r : (Unit)) (M2 : mm_M), F r M2 = some q → (fun r M o => mp_289_54 L xs (d) v1 M o) r M2 o) : mp_289_27 L xs d v1 v2 M o := by
  unfold mf_289_L27 at h
  exact mm_R_loop (step := (fun s M => mf_289_b27 v1 s M)) (s := v2) (M := M) (P := (fun s M o => mp_289_27 L xs (d) v1 s M o)) (X := (fun r M o => mp_289_54 L xs (d) v1 M o)) h hA (fun s M q hq hA => ms_289_b27 (v1 := v1) (v2 := s) (M := M) (q := q) hd hq hA) hx
def mp_289_56 (L : Nat) (xs : Nat → Int32) (d : Nat) (v1 : Int32) (v2 : Int32) (M : mm_M) (o : mm_E) : Prop := ∀ z3 z4 z5 : Option Value, mm_Runs L xs d 289 (56, [some (.ref 84), some (.int v1), some (.int v2), z3, z4, z5], [], M) o
def mp_289_85 (L : Nat) (xs : Nat → Int32) (d : Nat) (v1 : Int32) (M : mm_M) (o : mm_E) : Prop := ∀ z2 z3 z4 z5 : Option Value, mm_Runs L xs d 289 (85, [some (.ref 84), some (.int v1), z2, z3, z4, z5], [], M) o
set_option maxRecDepth 8000 in
set_option maxHeartbeats 4000000 in
theorem ms_289_b56 {L : Nat} {xs : Nat → Int32} {d : Nat} (hd : 1 ≤ d) {v1 : Int32} {v2 : Int32} {M : mm_M} {q : (((Int32) ⊕ (Unit)) ⊕ Nat) × mm_M} {o : mm_E} (h : mf_289_b56 v1 v2 M = some q) (hA : mm_A (mm_K2 (fun s M o => mp_289_56 L xs (d) v1 s M o) (fun r M o => mp_289_85 L xs (d) v1 M o)) q o) : mp_289_56 L xs d v1 v2 M o := by
  unfold mf_289_b56 at h
  obtain ⟨d, rfl⟩ := mm_d1 (n := 0) hd
  intro z3 z4 z5
  show mm_Runs L xs (d + 1) 289 (56, [some (.ref 84), some (.int v1), some (.int v2), z3, z4, z5], [], M) o
  refine mm_Runs.seq (l := [(56, .iload_n 2, 1), (57, .aload_n 0, 1), (58, .getfield 91, 3)]) (S2 := (61, [some (.ref 84), some (.int v1), some (.int v2), z3, z4, z5], [.int (M.1 84 2), .int v2], M)) (by decide +kernel) (hO := mm_own_289) rfl ?_
  refine mm_R_ige (t := 85) rfl rfl rfl (fun hc => ?_) (fun hc => ?_)
  · replace h := mm_ip hc h
    refine mm_Runs.seq (l := [(64, .aload_n 0, 1), (65, .getfield 81, 3), (68, .aload_n 0, 1), (69, .getfield 7, 3), (72, .iload_n 2, 1)]) (S2 := (73, [some (.ref 84), some (.int v1), some (.int v2), z3, z4, z5], [.int v2, .ref 85, .ref 108], M)) (by decide +kernel) (hO := mm_own_289) rfl ?_
    obtain ⟨hb, h⟩ := mm_gd h
    refine mm_R_iald rfl rfl hb ?_
    refine mm_Runs.seq (l := [(74, .dup2, 1)]) (S2 := (75, [some (.ref 84), some (.int v1), some (.int v2), z3, z4, z5], [.int (M.1 85 v2.toNatClampNeg), .ref 108, .int (M.1 85 v2.toNatClampNeg), .ref 108], M)) (by decide +kernel) (hO := mm_own_289) rfl ?_
    obtain ⟨hb, h⟩ := mm_gd h
    refine mm_R_iald rfl rfl hb ?_
    refine mm_Runs.seq (l := [(76, .iconst 1, 1), (77, .iadd, 1)]) (S2 := (78, [some (.ref 84), some (.int v1), some (.int v2), z3, z4, z5], [.int ((M.1 108 (M.1 85 v2.toNatClampNeg).toNatClampNeg) + (1 : Int32)), .int (M.1 85 v2.toNatClampNeg), .ref 108], M)) (by decide +kernel) (hO := mm_own_289) rfl ?_
    obtain ⟨hb, h⟩ := mm_gd h
    refine mm_R_iast rfl rfl hb ?_
    refine mm_Runs.seq (l := [(79, .iinc 2 1, 3), (82, .goto (-26), 3)]) (S2 := (56, [some (.ref 84), some (.int v1), some (.int (v2 + (1 : Int32))), z3, z4, z5], [], (mm_pi M 108 (M.1 85 v2.toNatClampNeg).toNatClampNeg ((M.1 108 (M.1 85 v2.toNatClampNeg).toNatClampNeg) + (1 : Int32))))) (by decide +kernel) (hO := mm_own_289) rfl ?_
    cases h
    exact (show mp_289_56 L xs (d + 1) v1 (v2 + (1 : Int32)) (mm_pi M 108 (M.1 85 v2.toNatClampNeg).toNatClampNeg ((M.1 108 (M.1 85 v2.toNatClampNeg).toNatClampNeg) + (1 : Int32))) o from hA) z3 z4 z5
  · replace h := mm_iq hc h
    cases h
    exact (show mp_289_85 L xs (d + 1) v1 M o from hA) (some (.int v2)) z3 z4 z5
theorem ms_289_L56 {L : Nat} {xs : Nat → Int32} {d : Nat} (hd : 1 ≤ d) {v1 : Int32} {v2 : Int32} {β : Type} {K : β → mm_M → mm_E → Prop} {F : (Unit) → mm_M → mm_O β} {M : mm_M} {q : (β ⊕ Nat) × mm_M} {o : mm_E} (h : mm_B (mf_289_L56 v1 v2 M) F = some q) (hA : mm_A K q o) (hx : ∀ (r : (Unit)) (M2 : mm_M), F r M2 = some q → (fun r M o => mp_289_85 L xs (d) v1 M o) r M2 o) : mp_289_56 L xs d v1 v2 M o := by
  unfold mf_289_L56 at h
  exact mm_R_loop (step := (fun s M => mf_289_b56 v1 s M)) (s := v2) (M := M) (P := (fun s M o => mp_289_56 L xs (d) v1 s M o)) (X := (fun r M o => mp_289_85 L xs (d) v1 M o)) h hA (fun s M q hq hA => ms_289_b56 (v1 := v1) (v2 := s) (M := M) (q := q) hd hq hA) hx
def mp_289_102 (L : Nat) (xs : Nat → Int32) (d : Nat) (v1 : Int32) (v2 : Int32) (v3 : Int32) (M : mm_M) (o : mm_E) : Prop := ∀ z4 z5 : Option Value, mm_Runs L xs d 289 (102, [some (.ref 84), some (.int v1), some (.int v2), some (.int v3), z4, z5], [], M) o
def mp_289_179 (L : Nat) (xs : Nat → Int32) (d : Nat) (v1 : Int32) (v2 : Int32) (M : mm_M) (o : mm_E) : Prop := ∀ z3 z4 z5 : Option Value, mm_Runs L xs d 289 (179, [some (.ref 84), some (.int v1), some (.int v2), z3, z4, z5], [], M) o
def mp_289_139 (L : Nat) (xs : Nat → Int32) (d : Nat) (v1 : Int32) (v2 : Int32) (v4 : Int32) (v5 : Int32) (s0 : Int32) (M : mm_M) (o : mm_E) : Prop := ∀ z3 : Option Value, mm_Runs L xs d 289 (139, [some (.ref 84), some (.int v1), some (.int v2), z3, some (.int v4), some (.int v5)], [.int s0], M) o
set_option maxRecDepth 8000 in
set_option maxHeartbeats 4000000 in
theorem ms_289_j139 {L : Nat} {xs : Nat → Int32} {d : Nat} (hd : 1 ≤ d) {v1 : Int32} {v2 : Int32} {v4 : Int32} {v5 : Int32} {s0 : Int32} {M : mm_M} {q : (((Int32 × Int32) ⊕ (Int32)) ⊕ Nat) × mm_M} {o : mm_E} (h : mf_289_j139 v1 v2 v4 v5 s0 M = some q) (hA : mm_A (mm_K2 (fun s M o => mp_289_102 L xs (d) v1 s.1 s.2 M o) (fun r M o => mp_289_179 L xs (d) v1 r M o)) q o) : mp_289_139 L xs d v1 v2 v4 v5 s0 M o := by
  unfold mf_289_j139 at h
  obtain ⟨d, rfl⟩ := mm_d1 (n := 0) hd
  intro z3
  show mm_Runs L xs (d + 1) 289 (139, [some (.ref 84), some (.int v1), some (.int v2), z3, some (.int v4), some (.int v5)], [.int s0], M) o
  refine mm_Runs.seq (l := [(139, .istore_n 3, 1), (140, .iload_n 3, 1)]) (S2 := (141, [some (.ref 84), some (.int v1), some (.int v2), some (.int s0), some (.int v4), some (.int v5)], [.int s0], M)) (by decide +kernel) (hO := mm_own_289) rfl ?_
  refine mm_R_zeq (t := 176) rfl rfl rfl (fun hc => ?_) (fun hc => ?_)
  · replace h := mm_ip hc h
    refine mm_Runs.seq (l := [(176, .goto (-74), 3)]) (S2 := (102, [some (.ref 84), some (.int v1), some (.int v2), some (.int s0), some (.int v4), some (.int v5)], [], M)) (by decide +kernel) (hO := mm_own_289) rfl ?_
    cases h
    exact (show mp_289_102 L xs (d + 1) v1 v2 s0 M o from hA) (some (.int v4)) (some (.int v5))
  · replace h := mm_iq hc h
    refine mm_Runs.seq (l := [(144, .aload_n 0, 1), (145, .getfield 84, 3), (148, .iload 5, 2), (150, .iload_n 2, 1)]) (S2 := (151, [some (.ref 84), some (.int v1), some (.int v2), some (.int s0), some (.int v4), some (.int v5)], [.int v2, .int v5, .ref 109], M)) (by decide +kernel) (hO := mm_own_289) rfl ?_
    obtain ⟨hb, h⟩ := mm_gd h
    refine mm_R_iast rfl rfl hb ?_
    refine mm_Runs.seq (l := [(152, .aload_n 0, 1), (153, .getfield 81, 3), (156, .iload_n 2, 1), (157, .aload_n 0, 1), (158, .getfield 81, 3), (161, .iload 4, 2)]) (S2 := (163, [some (.ref 84), some (.int v1), some (.int v2), some (.int s0), some (.int v4), some (.int v5)], [.int v4, .ref 108, .int v2, .ref 108], (mm_pi M 109 v5.toNatClampNeg v2))) (by decide +kernel) (hO := mm_own_289) rfl ?_
    obtain ⟨hb, h⟩ := mm_gd h
    refine mm_R_iald rfl rfl hb ?_
    refine mm_Runs.seq (l := [(164, .aload_n 0, 1), (165, .getfield 81, 3), (168, .iload 5, 2)]) (S2 := (170, [some (.ref 84), some (.int v1), some (.int v2), some (.int s0), some (.int v4), some (.int v5)], [.int v5, .ref 108, .int (M.1 108 v4.toNatClampNeg), .int v2, .ref 108], (mm_pi M 109 v5.toNatClampNeg v2))) (by decide +kernel) (hO := mm_own_289) rfl ?_
    obtain ⟨hb, h⟩ := mm_gd h
    refine mm_R_iald rfl rfl hb ?_
    refine mm_Runs.seq (l := [(171, .iadd, 1)]) (S2 := (172, [some (.ref 84), some (.int v1), some (.int v2), some (.int s0), some (.int v4), some (.int v5)], [.int ((M.1 108 v4.toNatClampNeg) + (M.1 108 v5.toNatClampNeg)), .int v2, .ref 108], (mm_pi M 109 v5.toNatClampNeg v2))) (by decide +kernel) (hO := mm_own_289) rfl ?_
    obtain ⟨hb, h⟩ := mm_gd h
    refine mm_R_iast rfl rfl hb ?_
    refine mm_Runs.seq (l := [(173, .iinc 2 1, 3), (176, .goto (-74), 3)]) (S2 := (102, [some (.ref 84), some (.int v1), some (.int (v2 + (1 : Int32))), some (.int s0), some (.int v4), some (.int v5)], [], (mm_pi (mm_pi M 109 v5.toNatClampNeg v2) 108 v2.toNatClampNeg ((M.1 108 v4.toNatClampNeg) + (M.1 108 v5.toNatClampNeg))))) (by decide +kernel) (hO := mm_own_289) rfl ?_
    cases h
    exact (show mp_289_102 L xs (d + 1) v1 (v2 + (1 : Int32)) s0 (mm_pi (mm_pi M 109 v5.toNatClampNeg v2) 108 v2.toNatClampNeg ((M.1 108 v4.toNatClampNeg) + (M.1 108 v5.toNatClampNeg))) o from hA) (some (.int v4)) (some (.int v5))
set_option maxRecDepth 8000 in
set_option maxHeartbeats 4000000 in
theorem ms_289_b102 {L : Nat} {xs : Nat → Int32} {d : Nat} (hd : 1 ≤ d) {v1 : Int32} {v2 : Int32} {v3 : Int32} {M : mm_M} {q : (((Int32 × Int32) ⊕ (Int32)) ⊕ Nat) × mm_M} {o : mm_E} (h : mf_289_b102 v1 v2 v3 M = some q) (hA : mm_A (mm_K2 (fun s M o => mp_289_102 L xs (d) v1 s.1 s.2 M o) (fun r M o => mp_289_179 L xs (d) v1 r M o)) q o) : mp_289_102 L xs d v1 v2 v3 M o := by
  unfold mf_289_b102 at h
  obtain ⟨d, rfl⟩ := mm_d1 (n := 0) hd
  intro z4 z5
  show mm_Runs L xs (d + 1) 289 (102, [some (.ref 84), some (.int v1), some (.int v2), some (.int v3), z4, z5], [], M) o
  refine mm_Runs.seq (l := [(102, .iload_n 3, 1)]) (S2 := (103, [some (.ref 84), some (.int v1), some (.int v2), some (.int v3), z4, z5], [.int v3], M)) (by decide +kernel) (hO := mm_own_289) rfl ?_
  refine mm_R_zeq (t := 179) rfl rfl rfl (fun hc => ?_) (fun hc => ?_)
  · replace h := mm_ip hc h
    cases h
    exact (show mp_289_179 L xs (d + 1) v1 v2 M o from hA) (some (.int v3)) z4 z5
  · replace h := mm_iq hc h
    refine mm_Runs.seq (l := [(106, .aload_n 0, 1), (107, .iload_n 2, 1)]) (S2 := (108, [some (.ref 84), some (.int v1), some (.int v2), some (.int v3), z4, z5], [.int v2, .ref 84], M)) (by decide +kernel) (hO := mm_own_289) rfl ?_
    refine mm_R_call (v := mm_wi) h hA (k2 := 288) (as := [.ref 84, .int v2]) (r := []) rfl (fun _ => rfl) (fun q hq o ho => ms_288 (by omega) hq ho) (fun r1 M2 h => ?_)
    show mm_Runs L xs (d + 1) 289 (111, [some (.ref 84), some (.int v1), some (.int v2), some (.int v3), z4, z5], [.int r1], M2) o
    refine mm_Runs.seq (l := [(111, .istore 4, 2), (113, .aload_n 0, 1), (114, .getfield 84, 3), (117, .iload 4, 2), (119, .iload_n 2, 1)]) (S2 := (120, [some (.ref 84), some (.int v1), some (.int v2), some (.int v3), some (.int r1), z5], [.int v2, .int r1, .ref 109], M2)) (by decide +kernel) (hO := mm_own_289) rfl ?_
    obtain ⟨hb, h⟩ := mm_gd h
    refine mm_R_iast rfl rfl hb ?_
    refine mm_Runs.seq (l := [(121, .aload_n 0, 1), (122, .iload_n 2, 1)]) (S2 := (123, [some (.ref 84), some (.int v1), some (.int v2), some (.int v3), some (.int r1), z5], [.int v2, .ref 84], (mm_pi M2 109 r1.toNatClampNeg v2))) (by decide +kernel) (hO := mm_own_289) rfl ?_
    refine mm_R_call (v := mm_wi) h hA (k2 := 288) (as := [.ref 84, .int v2]) (r := []) rfl (fun _ => rfl) (fun q hq o ho => ms_288 (by omega) hq ho) (fun r3 M4 h => ?_)
    show mm_Runs L xs (d + 1) 289 (126, [some (.ref 84), some (.int v1), some (.int v2), some (.int v3), some (.int r1), z5], [.int r3], M4) o
    refine mm_Runs.seq (l := [(126, .istore 5, 2), (128, .iload 5, 2), (130, .iconst (-1), 1)]) (S2 := (131, [some (.ref 84), some (.int v1), some (.int v2), some (.int v3), some (.int r1), some (.int r3)], [.int (-1 : Int32), .int r3], M4)) (by decide +kernel) (hO := mm_own_289) rfl ?_
    refine mm_R_ieq (t := 138) rfl rfl rfl (fun hc => ?_) (fun hc => ?_)
    · replace h := mm_ip hc h
      refine mm_Runs.seq (l := [(138, .iconst 0, 1)]) (S2 := (139, [some (.ref 84), some (.int v1), some (.int v2), some (.int v3), some (.int r1), some (.int r3)], [.int (0 : Int32)], M4)) (by decide +kernel) (hO := mm_own_289) rfl ?_
      exact (ms_289_j139 hd h hA : mp_289_139 L xs (d + 1) v1 v2 r1 r3 (0 : Int32) M4 o) (some (.int v3))
    · replace h := mm_iq hc h
      refine mm_Runs.seq (l := [(134, .iconst 1, 1), (135, .goto 4, 3)]) (S2 := (139, [some (.ref 84), some (.int v1), some (.int v2), some (.int v3), some (.int r1), some (.int r3)], [.int (1 : Int32)], M4)) (by decide +kernel) (hO := mm_own_289) rfl ?_
      exact (ms_289_j139 hd h hA : mp_289_139 L xs (d + 1) v1 v2 r1 r3 (1 : Int32) M4 o) (some (.int v3))
theorem ms_289_L102 {L : Nat} {xs : Nat → Int32} {d : Nat} (hd : 1 ≤ d) {v1 : Int32} {v2 : Int32} {v3 : Int32} {β : Type} {K : β → mm_M → mm_E → Prop} {F : (Int32) → mm_M → mm_O β} {M : mm_M} {q : (β ⊕ Nat) × mm_M} {o : mm_E} (h : mm_B (mf_289_L102 v1 (v2, v3) M) F = some q) (hA : mm_A K q o) (hx : ∀ (r : (Int32)) (M2 : mm_M), F r M2 = some q → (fun r M o => mp_289_179 L xs (d) v1 r M o) r M2 o) : mp_289_102 L xs d v1 v2 v3 M o := by
  unfold mf_289_L102 at h
  exact mm_R_loop (step := (fun s M => mf_289_b102 v1 s.1 s.2 M)) (s := (v2, v3)) (M := M) (P := (fun s M o => mp_289_102 L xs (d) v1 s.1 s.2 M o)) (X := (fun r M o => mp_289_179 L xs (d) v1 r M o)) h hA (fun s M q hq hA => ms_289_b102 (v1 := v1) (v2 := s.1) (v3 := s.2) (M := M) (q := q) hd hq hA) hx
def mp_289_203 (L : Nat) (xs : Nat → Int32) (d : Nat) (v4 : Int32) (v5 : Int32) (M : mm_M) (o : mm_E) : Prop := ∀ z1 z2 z3 : Option Value, mm_Runs L xs d 289 (203, [some (.ref 84), z1, z2, z3, some (.int v4), some (.int v5)], [], M) o
def mp_289_228 (L : Nat) (xs : Nat → Int32) (d : Nat) (v4 : Int32) (M : mm_M) (o : mm_E) : Prop := ∀ z0 z1 z2 z3 z5 : Option Value, mm_Runs L xs d 289 (228, [z0, z1, z2, z3, some (.int v4), z5], [], M) o
set_option maxRecDepth 8000 in
set_option maxHeartbeats 4000000 in
theorem ms_289_b203 {L : Nat} {xs : Nat → Int32} {d : Nat} (hd : 1 ≤ d) {v4 : Int32} {v5 : Int32} {M : mm_M} {q : (((Int32 × Int32) ⊕ (Int32)) ⊕ Nat) × mm_M} {o : mm_E} (h : mf_289_b203 v4 v5 M = some q) (hA : mm_A (mm_K2 (fun s M o => mp_289_203 L xs (d) s.1 s.2 M o) (fun r M o => mp_289_228 L xs (d) r M o)) q o) : mp_289_203 L xs d v4 v5 M o := by
  unfold mf_289_b203 at h
  obtain ⟨d, rfl⟩ := mm_d1 (n := 0) hd
  intro z1 z2 z3
  show mm_Runs L xs (d + 1) 289 (203, [some (.ref 84), z1, z2, z3, some (.int v4), some (.int v5)], [], M) o
  refine mm_Runs.seq (l := [(203, .aload_n 0, 1), (204, .getfield 84, 3), (207, .iload 5, 2)]) (S2 := (209, [some (.ref 84), z1, z2, z3, some (.int v4), some (.int v5)], [.int v5, .ref 109], M)) (by decide +kernel) (hO := mm_own_289) rfl ?_
  obtain ⟨hb, h⟩ := mm_gd h
  refine mm_R_iald rfl rfl hb ?_
  refine mm_R_zle (t := 228) rfl rfl rfl (fun hc => ?_) (fun hc => ?_)
  · replace h := mm_ip hc h
    refine mm_Runs.seq (l := [(213, .iinc 4 1, 3), (216, .aload_n 0, 1), (217, .getfield 84, 3), (220, .iload 5, 2)]) (S2 := (222, [some (.ref 84), z1, z2, (mm_no2 z3), some (.int (v4 + (1 : Int32))), some (.int v5)], [.int v5, .ref 109], M)) (by decide +kernel) (hO := mm_own_289) rfl ?_
    obtain ⟨hb, h⟩ := mm_gd h
    refine mm_R_iald rfl rfl hb ?_
    refine mm_Runs.seq (l := [(223, .istore 5, 2), (225, .goto (-22), 3)]) (S2 := (203, [some (.ref 84), z1, z2, (mm_no2 z3), some (.int (v4 + (1 : Int32))), some (.int (M.1 109 v5.toNatClampNeg))], [], M)) (by decide +kernel) (hO := mm_own_289) rfl ?_
    cases h
    exact (show mp_289_203 L xs (d + 1) (v4 + (1 : Int32)) (M.1 109 v5.toNatClampNeg) M o from hA) z1 z2 ((mm_no2 z3))
  · replace h := mm_iq hc h
    cases h
    exact (show mp_289_228 L xs (d + 1) v4 M o from hA) (some (.ref 84)) z1 z2 z3 (some (.int v5))
theorem ms_289_L203 {L : Nat} {xs : Nat → Int32} {d : Nat} (hd : 1 ≤ d) {v4 : Int32} {v5 : Int32} {β : Type} {K : β → mm_M → mm_E → Prop} {F : (Int32) → mm_M → mm_O β} {M : mm_M} {q : (β ⊕ Nat) × mm_M} {o : mm_E} (h : mm_B (mf_289_L203 (v4, v5) M) F = some q) (hA : mm_A K q o) (hx : ∀ (r : (Int32)) (M2 : mm_M), F r M2 = some q → (fun r M o => mp_289_228 L xs (d) r M o) r M2 o) : mp_289_203 L xs d v4 v5 M o := by
  unfold mf_289_L203 at h
  exact mm_R_loop (step := (fun s M => mf_289_b203 s.1 s.2 M)) (s := (v4, v5)) (M := M) (P := (fun s M o => mp_289_203 L xs (d) s.1 s.2 M o)) (X := (fun r M o => mp_289_228 L xs (d) r M o)) h hA (fun s M q hq hA => ms_289_b203 (v4 := s.1) (v5 := s.2) (M := M) (q := q) hd hq hA) hx
set_option maxRecDepth 8000 in
set_option maxHeartbeats 4000000 in
theorem ms_289_j179 {L : Nat} {xs : Nat → Int32} {d : Nat} (hd : 1 ≤ d) {v1 : Int32} {v2 : Int32} {M : mm_M} {q : (Int32 ⊕ Nat) × mm_M} {o : mm_E} (h : mf_289_j179 v1 v2 M = some q) (hA : mm_A (mm_Kr mm_wi) q o) : mp_289_179 L xs d v1 v2 M o := by
  unfold mf_289_j179 at h
  obtain ⟨d, rfl⟩ := mm_d1 (n := 0) hd
  intro z3 z4 z5
  show mm_Runs L xs (d + 1) 289 (179, [some (.ref 84), some (.int v1), some (.int v2), z3, z4, z5], [], M) o
  refine mm_Runs.seq (l := [(179, .iload_n 2, 1), (180, .sipush 256, 3)]) (S2 := (183, [some (.ref 84), some (.int v1), some (.int v2), z3, z4, z5], [.int (256 : Int32), .int v2], M)) (by decide +kernel) (hO := mm_own_289) rfl ?_
  refine mm_R_ine (t := 188) rfl rfl rfl (fun hc => ?_) (fun hc => ?_)
  · replace h := mm_ip hc h
    refine mm_Runs.seq (l := [(186, .iconst 1, 1)]) (S2 := (187, [some (.ref 84), some (.int v1), some (.int v2), z3, z4, z5], [.int (1 : Int32)], M)) (by decide +kernel) (hO := mm_own_289) rfl ?_
    cases h
    exact mm_R_reti rfl rfl hA
  · replace h := mm_iq hc h
    refine mm_Runs.seq (l := [(188, .aload_n 0, 1), (189, .getfield 84, 3), (192, .iload_n 2, 1), (193, .iconst 1, 1), (194, .isub, 1), (195, .iconst 0, 1)]) (S2 := (196, [some (.ref 84), some (.int v1), some (.int v2), z3, z4, z5], [.int (0 : Int32), .int (v2 - (1 : Int32)), .ref 109], M)) (by decide +kernel) (hO := mm_own_289) rfl ?_
    obtain ⟨hb, h⟩ := mm_gd h
    refine mm_R_iast rfl rfl hb ?_
    refine mm_Runs.seq (l := [(197, .iconst 0, 1), (198, .istore 4, 2), (200, .iload_n 1, 1), (201, .istore 5, 2)]) (S2 := (203, [some (.ref 84), some (.int v1), some (.int v2), (mm_no2 z3), some (.int (0 : Int32)), some (.int v1)], [], (mm_pi M 109 (v2 - (1 : Int32)).toNatClampNeg (0 : Int32)))) (by decide +kernel) (hO := mm_own_289) rfl ?_
    have hp : mp_289_203 L xs (d + 1) (0 : Int32) v1 (mm_pi M 109 (v2 - (1 : Int32)).toNatClampNeg (0 : Int32)) o := by
      refine ms_289_L203 hd h hA (fun r2 M1 h => ?_)
      intro y3 y4 y5 y6 y7
      show mm_Runs L xs (d + 1) 289 (228, [y3, y4, y5, y6, some (.int r2), y7], [], M1) o
      refine mm_Runs.seq (l := [(228, .iload 4, 2)]) (S2 := (230, [y3, y4, y5, y6, some (.int r2), y7], [.int r2], M1)) (by decide +kernel) (hO := mm_own_289) rfl ?_
      cases h
      exact mm_R_reti rfl rfl hA
    exact hp (some (.int v1)) (some (.int v2)) ((mm_no2 z3))
set_option maxRecDepth 8000 in
set_option maxHeartbeats 4000000 in
theorem ms_289_j85 {L : Nat} {xs : Nat → Int32} {d : Nat} (hd : 1 ≤ d) {v1 : Int32} {M : mm_M} {q : (Int32 ⊕ Nat) × mm_M} {o : mm_E} (h : mf_289_j85 v1 M = some q) (hA : mm_A (mm_Kr mm_wi) q o) : mp_289_85 L xs d v1 M o := by
  unfold mf_289_j85 at h
  obtain ⟨d, rfl⟩ := mm_d1 (n := 0) hd
  intro z2 z3 z4 z5
  show mm_Runs L xs (d + 1) 289 (85, [some (.ref 84), some (.int v1), z2, z3, z4, z5], [], M) o
  refine mm_Runs.seq (l := [(85, .aload_n 0, 1), (86, .getfield 81, 3), (89, .iload_n 1, 1)]) (S2 := (90, [some (.ref 84), some (.int v1), z2, z3, z4, z5], [.int v1, .ref 108], M)) (by decide +kernel) (hO := mm_own_289) rfl ?_
  obtain ⟨hb, h⟩ := mm_gd h
  refine mm_R_iald rfl rfl hb ?_
  refine mm_R_zne (t := 96) rfl rfl rfl (fun hc => ?_) (fun hc => ?_)
  · replace h := mm_ip hc h
    refine mm_Runs.seq (l := [(94, .iconst 0, 1)]) (S2 := (95, [some (.ref 84), some (.int v1), z2, z3, z4, z5], [.int (0 : Int32)], M)) (by decide +kernel) (hO := mm_own_289) rfl ?_
    cases h
    exact mm_R_reti rfl rfl hA
  · replace h := mm_iq hc h
    refine mm_Runs.seq (l := [(96, .sipush 256, 3), (99, .istore_n 2, 1), (100, .iconst 1, 1), (101, .istore_n 3, 1)]) (S2 := (102, [some (.ref 84), some (.int v1), some (.int (256 : Int32)), some (.int (1 : Int32)), z4, z5], [], M)) (by decide +kernel) (hO := mm_own_289) rfl ?_
    have hp : mp_289_102 L xs (d + 1) v1 (256 : Int32) (1 : Int32) M o := by
      refine ms_289_L102 hd h hA (fun r2 M1 h => ?_)
      intro y3 y4 y5
      show mm_Runs L xs (d + 1) 289 (179, [some (.ref 84), some (.int v1), some (.int r2), y3, y4, y5], [], M1) o
      exact (ms_289_j179 hd h hA : mp_289_179 L xs (d + 1) v1 r2 M1 o) y3 y4 y5
    exact hp z4 z5
set_option maxRecDepth 8000 in
set_option maxHeartbeats 4000000 in
theorem ms_289_j17 {L : Nat} {xs : Nat → Int32} {d : Nat} (hd : 1 ≤ d) {v1 : Int32} {s1 : Int32} {M : mm_M} {q : (Int32 ⊕ Nat) × mm_M} {o : mm_E} (h : mf_289_j17 v1 s1 M = some q) (hA : mm_A (mm_Kr mm_wi) q o) : mp_289_17 L xs d v1 s1 M o := by
  unfold mf_289_j17 at h
  obtain ⟨d, rfl⟩ := mm_d1 (n := 0) hd
  intro z2 z3 z4 z5
  show mm_Runs L xs (d + 1) 289 (17, [some (.ref 84), some (.int v1), z2, z3, z4, z5], [.int s1, .ref 84], M) o
  refine mm_R_call (v := mm_wi) h hA (k2 := 174) (as := [.ref 84, .int s1]) (r := []) rfl (fun _ => rfl) (fun q hq o ho => ms_174 (by omega) hq ho) (fun r1 M2 h => ?_)
  show mm_Runs L xs (d + 1) 289 (20, [some (.ref 84), some (.int v1), z2, z3, z4, z5], [.int r1], M2) o
  refine mm_R_zne (t := 25) rfl rfl rfl (fun hc => ?_) (fun hc => ?_)
  · replace h := mm_ip hc h
    refine mm_Runs.seq (l := [(23, .iconst 0, 1)]) (S2 := (24, [some (.ref 84), some (.int v1), z2, z3, z4, z5], [.int (0 : Int32)], M2)) (by decide +kernel) (hO := mm_own_289) rfl ?_
    cases h
    exact mm_R_reti rfl rfl hA
  · replace h := mm_iq hc h
    refine mm_Runs.seq (l := [(25, .iconst 0, 1), (26, .istore_n 2, 1)]) (S2 := (27, [some (.ref 84), some (.int v1), some (.int (0 : Int32)), z3, z4, z5], [], M2)) (by decide +kernel) (hO := mm_own_289) rfl ?_
    have hp : mp_289_27 L xs (d + 1) v1 (0 : Int32) M2 o := by
      refine ms_289_L27 hd h hA (fun r4 M3 h => ?_)
      intro y5 y6 y7 y8
      show mm_Runs L xs (d + 1) 289 (54, [some (.ref 84), some (.int v1), y5, y6, y7, y8], [], M3) o
      refine mm_Runs.seq (l := [(54, .iconst 0, 1), (55, .istore_n 2, 1)]) (S2 := (56, [some (.ref 84), some (.int v1), some (.int (0 : Int32)), y6, y7, y8], [], M3)) (by decide +kernel) (hO := mm_own_289) rfl ?_
      have hp : mp_289_56 L xs (d + 1) v1 (0 : Int32) M3 o := by
        refine ms_289_L56 hd h hA (fun r10 M9 h => ?_)
        intro y11 y12 y13 y14
        show mm_Runs L xs (d + 1) 289 (85, [some (.ref 84), some (.int v1), y11, y12, y13, y14], [], M9) o
        exact (ms_289_j85 hd h hA : mp_289_85 L xs (d + 1) v1 M9 o) y11 y12 y13 y14
      exact hp y6 y7 y8
    exact hp z3 z4 z5
set_option maxRecDepth 8000 in
set_option maxHeartbeats 4000000 in
theorem ms_289_j16 {L : Nat} {xs : Nat → Int32} {d : Nat} (hd : 1 ≤ d) {v1 : Int32} {M : mm_M} {q : (Int32 ⊕ Nat) × mm_M} {o : mm_E} (h : mf_289_j16 v1 M = some q) (hA : mm_A (mm_Kr mm_wi) q o) : mp_289_16 L xs d v1 M o := by
  unfold mf_289_j16 at h
  obtain ⟨d, rfl⟩ := mm_d1 (n := 0) hd
  intro z2 z3 z4 z5
  show mm_Runs L xs (d + 1) 289 (16, [some (.ref 84), some (.int v1), z2, z3, z4, z5], [.ref 84], M) o
  refine mm_Runs.seq (l := [(16, .iconst 0, 1)]) (S2 := (17, [some (.ref 84), some (.int v1), z2, z3, z4, z5], [.int (0 : Int32), .ref 84], M)) (by decide +kernel) (hO := mm_own_289) rfl ?_
  exact (ms_289_j17 hd h hA : mp_289_17 L xs (d + 1) v1 (0 : Int32) M o) z2 z3 z4 z5
set_option maxRecDepth 8000 in
set_option maxHeartbeats 4000000 in
theorem ms_289 {L : Nat} {xs : Nat → Int32} {d : Nat} (hd : 1 ≤ d) {v1 : Int32} {M : mm_M} {q : (Int32 ⊕ Nat) × mm_M} {o : mm_E} (h : mf_289 v1 M = some q) (hA : mm_A (mm_Kr mm_wi) q o) : mm_Runs L xs d 289 (0, mm_ent (mm_ml 289) [.ref 84, .int v1], [], M) o := by
  unfold mf_289 at h
  obtain ⟨d, rfl⟩ := mm_d1 (n := 0) hd
  show mm_Runs L xs (d + 1) 289 (0, [some (.ref 84), some (.int v1), none, none, none, none], [], M) o
  refine mm_Runs.seq (l := [(0, .aload_n 0, 1), (1, .iload_n 1, 1)]) (S2 := (2, [some (.ref 84), some (.int v1), none, none, none, none], [.int v1, .ref 84], M)) (by decide +kernel) (hO := mm_own_289) rfl ?_
  refine mm_R_zlt (t := 16) rfl rfl rfl (fun hc => ?_) (fun hc => ?_)
  · replace h := mm_ip hc h
    exact (ms_289_j16 hd h hA : mp_289_16 L xs (d + 1) v1 M o) none none none none
  · replace h := mm_iq hc h
    refine mm_Runs.seq (l := [(5, .iload_n 1, 1), (6, .sipush 255, 3)]) (S2 := (9, [some (.ref 84), some (.int v1), none, none, none, none], [.int (255 : Int32), .int v1, .ref 84], M)) (by decide +kernel) (hO := mm_own_289) rfl ?_
    refine mm_R_igt (t := 16) rfl rfl rfl (fun hc => ?_) (fun hc => ?_)
    · replace h := mm_ip hc h
      exact (ms_289_j16 hd h hA : mp_289_16 L xs (d + 1) v1 M o) none none none none
    · replace h := mm_iq hc h
      refine mm_Runs.seq (l := [(12, .iconst 1, 1), (13, .goto 4, 3)]) (S2 := (17, [some (.ref 84), some (.int v1), none, none, none, none], [.int (1 : Int32), .ref 84], M)) (by decide +kernel) (hO := mm_own_289) rfl ?_
      exact (ms_289_j17 hd h hA : mp_289_17 L xs (d + 1) v1 (1 : Int32) M o) none none none none
