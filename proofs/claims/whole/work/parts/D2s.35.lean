/-! MEANINGS ARE SOUND 35 -/
-- 278: PlainPacksModel.letter(I)V (depth 0)
theorem mm_own_278 : mm_own 278 = 12 := rfl
set_option maxRecDepth 8000 in
set_option maxHeartbeats 4000000 in
theorem ms_278 {L : Nat} {xs : Nat → Int32} {d : Nat} (hd : 0 ≤ d) {v1 : Int32} {M : mm_M} {q : (Unit ⊕ Nat) × mm_M} {o : mm_E} (h : mf_278 v1 M = some q) (hA : mm_A (mm_Kr mm_wv) q o) : mm_Runs L xs d 278 (0, mm_ent (mm_ml 278) [.ref 84, .int v1], [], M) o := by
  unfold mf_278 at h
  show mm_Runs L xs (d) 278 (0, [some (.ref 84), some (.int v1)], [], M) o
  refine mm_Runs.seq (l := [(0, .aload_n 0, 1), (1, .getfield 69, 3), (4, .aload_n 0, 1), (5, .getfield 510, 3), (8, .iload_n 1, 1)]) (S2 := (9, [some (.ref 84), some (.int v1)], [.int v1, .int (M.1 84 52), .ref 104], M)) (by decide +kernel) (hO := mm_own_278) rfl ?_
  obtain ⟨hb, h⟩ := mm_gd h
  refine mm_R_iast rfl rfl hb ?_
  refine mm_Runs.seq (l := [(10, .aload_n 0, 1), (11, .dup, 1), (12, .getfield 510, 3), (15, .iconst 1, 1), (16, .iadd, 1), (17, .putfield 510, 3)]) (S2 := (20, [some (.ref 84), some (.int v1)], [], (mm_pi (mm_pi M 104 (M.1 84 52).toNatClampNeg v1) 84 52 ((M.1 84 52) + (1 : Int32))))) (by decide +kernel) (hO := mm_own_278) rfl ?_
  cases h
  exact mm_R_retv rfl rfl hA
-- 279: PlainPacksModel.runLetters(I)V (depth 1)
theorem mm_own_279 : mm_own 279 = 12 := rfl
def mp_279_2 (L : Nat) (xs : Nat → Int32) (d : Nat) (v2 : Int32) (M : mm_M) (o : mm_E) : Prop := ∀ z1 : Option Value, mm_Runs L xs d 279 (2, [some (.ref 84), z1, some (.int v2)], [], M) o
def mp_279_24 (L : Nat) (xs : Nat → Int32) (d : Nat) (M : mm_M) (o : mm_E) : Prop := ∀ z0 z1 z2 : Option Value, mm_Runs L xs d 279 (24, [z0, z1, z2], [], M) o
set_option maxRecDepth 8000 in
set_option maxHeartbeats 4000000 in
theorem ms_279_b2 {L : Nat} {xs : Nat → Int32} {d : Nat} (hd : 1 ≤ d) {v2 : Int32} {M : mm_M} {q : (((Int32) ⊕ (Unit)) ⊕ Nat) × mm_M} {o : mm_E} (h : mf_279_b2 v2 M = some q) (hA : mm_A (mm_K2 (fun s M o => mp_279_2 L xs (d) s M o) (fun r M o => mp_279_24 L xs (d) M o)) q o) : mp_279_2 L xs d v2 M o := by
  unfold mf_279_b2 at h
  obtain ⟨d, rfl⟩ := mm_d1 (n := 0) hd
  intro z1
  show mm_Runs L xs (d + 1) 279 (2, [some (.ref 84), z1, some (.int v2)], [], M) o
  refine mm_Runs.seq (l := [(2, .iload_n 2, 1)]) (S2 := (3, [some (.ref 84), z1, some (.int v2)], [.int v2], M)) (by decide +kernel) (hO := mm_own_279) rfl ?_
  refine mm_R_zle (t := 24) rfl rfl rfl (fun hc => ?_) (fun hc => ?_)
  · replace h := mm_ip hc h
    refine mm_Runs.seq (l := [(6, .aload_n 0, 1), (7, .iconst 1, 1), (8, .iload_n 2, 1), (9, .iconst 2, 1), (10, .irem, 1), (11, .isub, 1)]) (S2 := (12, [some (.ref 84), z1, some (.int v2)], [.int ((1 : Int32) - (mm_rem v2 (2 : Int32))), .ref 84], M)) (by decide +kernel) (hO := mm_own_279) rfl ?_
    refine mm_R_call (v := mm_wv) h hA (k2 := 278) (as := [.ref 84, .int ((1 : Int32) - (mm_rem v2 (2 : Int32)))]) (r := []) rfl (fun _ => rfl) (fun q hq o ho => ms_278 (by omega) hq ho) (fun _ M1 h => ?_)
    show mm_Runs L xs (d + 1) 279 (15, [some (.ref 84), z1, some (.int v2)], [], M1) o
    refine mm_Runs.seq (l := [(15, .iload_n 2, 1), (16, .iconst 1, 1), (17, .isub, 1), (18, .iconst 2, 1), (19, .idiv, 1), (20, .istore_n 2, 1), (21, .goto (-19), 3)]) (S2 := (2, [some (.ref 84), (mm_no2 z1), some (.int ((v2 - (1 : Int32)) / (2 : Int32)))], [], M1)) (by decide +kernel) (hO := mm_own_279) rfl ?_
    cases h
    exact (show mp_279_2 L xs (d + 1) ((v2 - (1 : Int32)) / (2 : Int32)) M1 o from hA) ((mm_no2 z1))
  · replace h := mm_iq hc h
    cases h
    exact (show mp_279_24 L xs (d + 1) M o from hA) (some (.ref 84)) z1 (some (.int v2))
theorem ms_279_L2 {L : Nat} {xs : Nat → Int32} {d : Nat} (hd : 1 ≤ d) {v2 : Int32} {β : Type} {K : β → mm_M → mm_E → Prop} {F : (Unit) → mm_M → mm_O β} {M : mm_M} {q : (β ⊕ Nat) × mm_M} {o : mm_E} (h : mm_B (mf_279_L2 v2 M) F = some q) (hA : mm_A K q o) (hx : ∀ (r : (Unit)) (M2 : mm_M), F r M2 = some q → (fun r M o => mp_279_24 L xs (d) M o) r M2 o) : mp_279_2 L xs d v2 M o := by
  unfold mf_279_L2 at h
  exact mm_R_loop (step := (fun s M => mf_279_b2 s M)) (s := v2) (M := M) (P := (fun s M o => mp_279_2 L xs (d) s M o)) (X := (fun r M o => mp_279_24 L xs (d) M o)) h hA (fun s M q hq hA => ms_279_b2 (v2 := s) (M := M) (q := q) hd hq hA) hx
set_option maxRecDepth 8000 in
set_option maxHeartbeats 4000000 in
theorem ms_279 {L : Nat} {xs : Nat → Int32} {d : Nat} (hd : 1 ≤ d) {v1 : Int32} {M : mm_M} {q : (Unit ⊕ Nat) × mm_M} {o : mm_E} (h : mf_279 v1 M = some q) (hA : mm_A (mm_Kr mm_wv) q o) : mm_Runs L xs d 279 (0, mm_ent (mm_ml 279) [.ref 84, .int v1], [], M) o := by
  unfold mf_279 at h
  obtain ⟨d, rfl⟩ := mm_d1 (n := 0) hd
  show mm_Runs L xs (d + 1) 279 (0, [some (.ref 84), some (.int v1), none], [], M) o
  refine mm_Runs.seq (l := [(0, .iload_n 1, 1), (1, .istore_n 2, 1)]) (S2 := (2, [some (.ref 84), some (.int v1), some (.int v1)], [], M)) (by decide +kernel) (hO := mm_own_279) rfl ?_
  have hp : mp_279_2 L xs (d + 1) v1 M o := by
    refine ms_279_L2 hd h hA (fun r2 M1 h => ?_)
    intro y3 y4 y5
    show mm_Runs L xs (d + 1) 279 (24, [y3, y4, y5], [], M1) o
    cases h
    exact mm_R_retv rfl rfl hA
  exact hp (some (.int v1))
-- 280: PlainPacksModel.writeSorted(I)V (depth 4)
theorem mm_own_280 : mm_own 280 = 12 := rfl
def mp_280_17 (L : Nat) (xs : Nat → Int32) (d : Nat) (v1 : Int32) (v2 : Int32) (v3 : Int32) (v4 : Int32) (M : mm_M) (o : mm_E) : Prop := ∀ z5 z6 z7 : Option Value, mm_Runs L xs d 280 (17, [some (.ref 84), some (.int v1), some (.int v2), some (.int v3), some (.int v4), z5, z6, z7], [], M) o
def mp_280_135 (L : Nat) (xs : Nat → Int32) (d : Nat) (v2 : Int32) (v3 : Int32) (M : mm_M) (o : mm_E) : Prop := ∀ z1 z4 z5 z6 z7 : Option Value, mm_Runs L xs d 280 (135, [some (.ref 84), z1, some (.int v2), some (.int v3), z4, z5, z6, z7], [], M) o
def mp_280_46 (L : Nat) (xs : Nat → Int32) (d : Nat) (v1 : Int32) (v2 : Int32) (v3 : Int32) (v4 : Int32) (v5 : Int32) (v6 : Int32) (M : mm_M) (o : mm_E) : Prop := ∀ z7 : Option Value, mm_Runs L xs d 280 (46, [some (.ref 84), some (.int v1), some (.int v2), some (.int v3), some (.int v4), some (.int v5), some (.int v6), z7], [], M) o
def mp_280_64 (L : Nat) (xs : Nat → Int32) (d : Nat) (v1 : Int32) (v2 : Int32) (v3 : Int32) (v4 : Int32) (v5 : Int32) (v6 : Int32) (M : mm_M) (o : mm_E) : Prop := ∀ z7 : Option Value, mm_Runs L xs d 280 (64, [some (.ref 84), some (.int v1), some (.int v2), some (.int v3), some (.int v4), some (.int v5), some (.int v6), z7], [], M) o
set_option maxRecDepth 8000 in
set_option maxHeartbeats 4000000 in
theorem ms_280_b46 {L : Nat} {xs : Nat → Int32} {d : Nat} (hd : 4 ≤ d) {v1 : Int32} {v2 : Int32} {v3 : Int32} {v4 : Int32} {v5 : Int32} {v6 : Int32} {M : mm_M} {q : (((Int32) ⊕ (Int32)) ⊕ Nat) × mm_M} {o : mm_E} (h : mf_280_b46 v1 v2 v3 v4 v5 v6 M = some q) (hA : mm_A (mm_K2 (fun s M o => mp_280_46 L xs (d) v1 v2 v3 v4 v5 s M o) (fun r M o => mp_280_64 L xs (d) v1 v2 v3 v4 v5 r M o)) q o) : mp_280_46 L xs d v1 v2 v3 v4 v5 v6 M o := by
  unfold mf_280_b46 at h
  obtain ⟨d, rfl⟩ := mm_d1 (n := 3) hd
  intro z7
  show mm_Runs L xs (d + 1) 280 (46, [some (.ref 84), some (.int v1), some (.int v2), some (.int v3), some (.int v4), some (.int v5), some (.int v6), z7], [], M) o
  refine mm_Runs.seq (l := [(46, .aload_n 0, 1), (47, .getfield 38, 3), (50, .iload 6, 2)]) (S2 := (52, [some (.ref 84), some (.int v1), some (.int v2), some (.int v3), some (.int v4), some (.int v5), some (.int v6), z7], [.int v6, .ref 94], M)) (by decide +kernel) (hO := mm_own_280) rfl ?_
  obtain ⟨hb, h⟩ := mm_gd h
  refine mm_R_iald rfl rfl hb ?_
  refine mm_Runs.seq (l := [(53, .iload 5, 2)]) (S2 := (55, [some (.ref 84), some (.int v1), some (.int v2), some (.int v3), some (.int v4), some (.int v5), some (.int v6), z7], [.int v5, .int (M.1 94 v6.toNatClampNeg)], M)) (by decide +kernel) (hO := mm_own_280) rfl ?_
  refine mm_R_ieq (t := 64) rfl rfl rfl (fun hc => ?_) (fun hc => ?_)
  · replace h := mm_ip hc h
    cases h
    exact (show mp_280_64 L xs (d + 1) v1 v2 v3 v4 v5 v6 M o from hA) z7
  · replace h := mm_iq hc h
    refine mm_Runs.seq (l := [(58, .iinc 6 1, 3), (61, .goto (-15), 3)]) (S2 := (46, [some (.ref 84), some (.int v1), some (.int v2), some (.int v3), some (.int v4), some (.int v5), some (.int (v6 + (1 : Int32))), z7], [], M)) (by decide +kernel) (hO := mm_own_280) rfl ?_
    cases h
    exact (show mp_280_46 L xs (d + 1) v1 v2 v3 v4 v5 (v6 + (1 : Int32)) M o from hA) z7
theorem ms_280_L46 {L : Nat} {xs : Nat → Int32} {d : Nat} (hd : 4 ≤ d) {v1 : Int32} {v2 : Int32} {v3 : Int32} {v4 : Int32} {v5 : Int32} {v6 : Int32} {β : Type} {K : β → mm_M → mm_E → Prop} {F : (Int32) → mm_M → mm_O β} {M : mm_M} {q : (β ⊕ Nat) × mm_M} {o : mm_E} (h : mm_B (mf_280_L46 v1 v2 v3 v4 v5 v6 M) F = some q) (hA : mm_A K q o) (hx : ∀ (r : (Int32)) (M2 : mm_M), F r M2 = some q → (fun r M o => mp_280_64 L xs (d) v1 v2 v3 v4 v5 r M o) r M2 o) : mp_280_46 L xs d v1 v2 v3 v4 v5 v6 M o := by
  unfold mf_280_L46 at h
  exact mm_R_loop (step := (fun s M => mf_280_b46 v1 v2 v3 v4 v5 s M)) (s := v6) (M := M) (P := (fun s M o => mp_280_46 L xs (d) v1 v2 v3 v4 v5 s M o)) (X := (fun r M o => mp_280_64 L xs (d) v1 v2 v3 v4 v5 r M o)) h hA (fun s M q hq hA => ms_280_b46 (v1 := v1) (v2 := v2) (v3 := v3) (v4 := v4) (v5 := v5) (v6 := s) (M := M) (q := q) hd hq hA) hx
def mp_280_94 (L : Nat) (xs : Nat → Int32) (d : Nat) (v1 : Int32) (v2 : Int32) (v3 : Int32) (v4 : Int32) (v5 : Int32) (v7 : Int32) (M : mm_M) (o : mm_E) : Prop := ∀ z6 : Option Value, mm_Runs L xs d 280 (94, [some (.ref 84), some (.int v1), some (.int v2), some (.int v3), some (.int v4), some (.int v5), z6, some (.int v7)], [], M) o
def mp_280_121 (L : Nat) (xs : Nat → Int32) (d : Nat) (v1 : Int32) (v2 : Int32) (v3 : Int32) (v4 : Int32) (v5 : Int32) (M : mm_M) (o : mm_E) : Prop := ∀ z6 z7 : Option Value, mm_Runs L xs d 280 (121, [some (.ref 84), some (.int v1), some (.int v2), some (.int v3), some (.int v4), some (.int v5), z6, z7], [], M) o
set_option maxRecDepth 8000 in
set_option maxHeartbeats 4000000 in
theorem ms_280_b94 {L : Nat} {xs : Nat → Int32} {d : Nat} (hd : 4 ≤ d) {v1 : Int32} {v2 : Int32} {v3 : Int32} {v4 : Int32} {v5 : Int32} {v7 : Int32} {M : mm_M} {q : (((Int32) ⊕ (Unit)) ⊕ Nat) × mm_M} {o : mm_E} (h : mf_280_b94 v1 v2 v3 v4 v5 v7 M = some q) (hA : mm_A (mm_K2 (fun s M o => mp_280_94 L xs (d) v1 v2 v3 v4 v5 s M o) (fun r M o => mp_280_121 L xs (d) v1 v2 v3 v4 v5 M o)) q o) : mp_280_94 L xs d v1 v2 v3 v4 v5 v7 M o := by
  unfold mf_280_b94 at h
  obtain ⟨d, rfl⟩ := mm_d1 (n := 3) hd
  intro z6
  show mm_Runs L xs (d + 1) 280 (94, [some (.ref 84), some (.int v1), some (.int v2), some (.int v3), some (.int v4), some (.int v5), z6, some (.int v7)], [], M) o
  refine mm_Runs.seq (l := [(94, .iload 7, 2)]) (S2 := (96, [some (.ref 84), some (.int v1), some (.int v2), some (.int v3), some (.int v4), some (.int v5), z6, some (.int v7)], [.int v7], M)) (by decide +kernel) (hO := mm_own_280) rfl ?_
  refine mm_R_zle (t := 121) rfl rfl rfl (fun hc => ?_) (fun hc => ?_)
  · replace h := mm_ip hc h
    refine mm_Runs.seq (l := [(99, .aload_n 0, 1), (100, .getfield 38, 3), (103, .iload 7, 2), (105, .aload_n 0, 1), (106, .getfield 38, 3), (109, .iload 7, 2), (111, .iconst 1, 1), (112, .isub, 1)]) (S2 := (113, [some (.ref 84), some (.int v1), some (.int v2), some (.int v3), some (.int v4), some (.int v5), z6, some (.int v7)], [.int (v7 - (1 : Int32)), .ref 94, .int v7, .ref 94], M)) (by decide +kernel) (hO := mm_own_280) rfl ?_
    obtain ⟨hb, h⟩ := mm_gd h
    refine mm_R_iald rfl rfl hb ?_
    obtain ⟨hb, h⟩ := mm_gd h
    refine mm_R_iast rfl rfl hb ?_
    refine mm_Runs.seq (l := [(115, .iinc 7 (-1), 3), (118, .goto (-24), 3)]) (S2 := (94, [some (.ref 84), some (.int v1), some (.int v2), some (.int v3), some (.int v4), some (.int v5), (mm_no2 z6), some (.int (v7 + (-1 : Int32)))], [], (mm_pi M 94 v7.toNatClampNeg (M.1 94 (v7 - (1 : Int32)).toNatClampNeg)))) (by decide +kernel) (hO := mm_own_280) rfl ?_
    cases h
    exact (show mp_280_94 L xs (d + 1) v1 v2 v3 v4 v5 (v7 + (-1 : Int32)) (mm_pi M 94 v7.toNatClampNeg (M.1 94 (v7 - (1 : Int32)).toNatClampNeg)) o from hA) ((mm_no2 z6))
  · replace h := mm_iq hc h
    cases h
    exact (show mp_280_121 L xs (d + 1) v1 v2 v3 v4 v5 M o from hA) z6 (some (.int v7))
theorem ms_280_L94 {L : Nat} {xs : Nat → Int32} {d : Nat} (hd : 4 ≤ d) {v1 : Int32} {v2 : Int32} {v3 : Int32} {v4 : Int32} {v5 : Int32} {v7 : Int32} {β : Type} {K : β → mm_M → mm_E → Prop} {F : (Unit) → mm_M → mm_O β} {M : mm_M} {q : (β ⊕ Nat) × mm_M} {o : mm_E} (h : mm_B (mf_280_L94 v1 v2 v3 v4 v5 v7 M) F = some q) (hA : mm_A K q o) (hx : ∀ (r : (Unit)) (M2 : mm_M), F r M2 = some q → (fun r M o => mp_280_121 L xs (d) v1 v2 v3 v4 v5 M o) r M2 o) : mp_280_94 L xs d v1 v2 v3 v4 v5 v7 M o := by
  unfold mf_280_L94 at h
  exact mm_R_loop (step := (fun s M => mf_280_b94 v1 v2 v3 v4 v5 s M)) (s := v7) (M := M) (P := (fun s M o => mp_280_94 L xs (d) v1 v2 v3 v4 v5 s M o)) (X := (fun r M o => mp_280_121 L xs (d) v1 v2 v3 v4 v5 M o)) h hA (fun s M q hq hA => ms_280_b94 (v1 := v1) (v2 := v2) (v3 := v3) (v4 := v4) (v5 := v5) (v7 := s) (M := M) (q := q) hd hq hA) hx
set_option maxRecDepth 8000 in
set_option maxHeartbeats 4000000 in
theorem ms_280_j121 {L : Nat} {xs : Nat → Int32} {d : Nat} (hd : 4 ≤ d) {v1 : Int32} {v2 : Int32} {v3 : Int32} {v4 : Int32} {v5 : Int32} {M : mm_M} {q : (((Int32 × Int32) ⊕ (Int32)) ⊕ Nat) × mm_M} {o : mm_E} (h : mf_280_j121 v1 v2 v3 v4 v5 M = some q) (hA : mm_A (mm_K2 (fun s M o => mp_280_17 L xs (d) v1 v2 s.1 s.2 M o) (fun r M o => mp_280_135 L xs (d) v2 r M o)) q o) : mp_280_121 L xs d v1 v2 v3 v4 v5 M o := by
  unfold mf_280_j121 at h
  obtain ⟨d, rfl⟩ := mm_d1 (n := 3) hd
  intro z6 z7
  show mm_Runs L xs (d + 1) 280 (121, [some (.ref 84), some (.int v1), some (.int v2), some (.int v3), some (.int v4), some (.int v5), z6, z7], [], M) o
  refine mm_Runs.seq (l := [(121, .aload_n 0, 1), (122, .getfield 38, 3), (125, .iconst 0, 1), (126, .iload 5, 2)]) (S2 := (128, [some (.ref 84), some (.int v1), some (.int v2), some (.int v3), some (.int v4), some (.int v5), z6, z7], [.int v5, .int (0 : Int32), .ref 94], M)) (by decide +kernel) (hO := mm_own_280) rfl ?_
  obtain ⟨hb, h⟩ := mm_gd h
  refine mm_R_iast rfl rfl hb ?_
  refine mm_Runs.seq (l := [(129, .iinc 4 1, 3), (132, .goto (-115), 3)]) (S2 := (17, [some (.ref 84), some (.int v1), some (.int v2), some (.int v3), some (.int (v4 + (1 : Int32))), some (.int v5), z6, z7], [], (mm_pi M 94 (0 : Int32).toNatClampNeg v5))) (by decide +kernel) (hO := mm_own_280) rfl ?_
  cases h
  exact (show mp_280_17 L xs (d + 1) v1 v2 v3 (v4 + (1 : Int32)) (mm_pi M 94 (0 : Int32).toNatClampNeg v5) o from hA) (some (.int v5)) z6 z7
set_option maxRecDepth 8000 in
set_option maxHeartbeats 4000000 in
theorem ms_280_j64 {L : Nat} {xs : Nat → Int32} {d : Nat} (hd : 4 ≤ d) {v1 : Int32} {v2 : Int32} {v3 : Int32} {v4 : Int32} {v5 : Int32} {v6 : Int32} {M : mm_M} {q : (((Int32 × Int32) ⊕ (Int32)) ⊕ Nat) × mm_M} {o : mm_E} (h : mf_280_j64 v1 v2 v3 v4 v5 v6 M = some q) (hA : mm_A (mm_K2 (fun s M o => mp_280_17 L xs (d) v1 v2 s.1 s.2 M o) (fun r M o => mp_280_135 L xs (d) v2 r M o)) q o) : mp_280_64 L xs d v1 v2 v3 v4 v5 v6 M o := by
  unfold mf_280_j64 at h
  obtain ⟨d, rfl⟩ := mm_d1 (n := 3) hd
  intro z7
  show mm_Runs L xs (d + 1) 280 (64, [some (.ref 84), some (.int v1), some (.int v2), some (.int v3), some (.int v4), some (.int v5), some (.int v6), z7], [], M) o
  refine mm_Runs.seq (l := [(64, .iload 6, 2)]) (S2 := (66, [some (.ref 84), some (.int v1), some (.int v2), some (.int v3), some (.int v4), some (.int v5), some (.int v6), z7], [.int v6], M)) (by decide +kernel) (hO := mm_own_280) rfl ?_
  refine mm_R_zne (t := 75) rfl rfl rfl (fun hc => ?_) (fun hc => ?_)
  · replace h := mm_ip hc h
    refine mm_Runs.seq (l := [(69, .iinc 3 1, 3), (72, .goto 57, 3), (129, .iinc 4 1, 3), (132, .goto (-115), 3)]) (S2 := (17, [some (.ref 84), some (.int v1), some (.int v2), some (.int (v3 + (1 : Int32))), some (.int (v4 + (1 : Int32))), some (.int v5), some (.int v6), z7], [], M)) (by decide +kernel) (hO := mm_own_280) rfl ?_
    cases h
    exact (show mp_280_17 L xs (d + 1) v1 v2 (v3 + (1 : Int32)) (v4 + (1 : Int32)) M o from hA) (some (.int v5)) (some (.int v6)) z7
  · replace h := mm_iq hc h
    refine mm_Runs.seq (l := [(75, .aload_n 0, 1), (76, .iload_n 3, 1)]) (S2 := (77, [some (.ref 84), some (.int v1), some (.int v2), some (.int v3), some (.int v4), some (.int v5), some (.int v6), z7], [.int v3, .ref 84], M)) (by decide +kernel) (hO := mm_own_280) rfl ?_
    refine mm_R_call (v := mm_wv) h hA (k2 := 279) (as := [.ref 84, .int v3]) (r := []) rfl (fun _ => rfl) (fun q hq o ho => ms_279 (by omega) hq ho) (fun _ M1 h => ?_)
    show mm_Runs L xs (d + 1) 280 (80, [some (.ref 84), some (.int v1), some (.int v2), some (.int v3), some (.int v4), some (.int v5), some (.int v6), z7], [], M1) o
    refine mm_Runs.seq (l := [(80, .iconst 0, 1), (81, .istore_n 3, 1), (82, .aload_n 0, 1), (83, .iload 6, 2), (85, .iconst 1, 1), (86, .iadd, 1)]) (S2 := (87, [some (.ref 84), some (.int v1), some (.int v2), some (.int (0 : Int32)), some (.int v4), some (.int v5), some (.int v6), z7], [.int (v6 + (1 : Int32)), .ref 84], M1)) (by decide +kernel) (hO := mm_own_280) rfl ?_
    refine mm_R_call (v := mm_wv) h hA (k2 := 278) (as := [.ref 84, .int (v6 + (1 : Int32))]) (r := []) rfl (fun _ => rfl) (fun q hq o ho => ms_278 (by omega) hq ho) (fun _ M2 h => ?_)
    show mm_Runs L xs (d + 1) 280 (90, [some (.ref 84), some (.int v1), some (.int v2), some (.int (0 : Int32)), some (.int v4), some (.int v5), some (.int v6), z7], [], M2) o
    refine mm_Runs.seq (l := [(90, .iload 6, 2), (92, .istore 7, 2)]) (S2 := (94, [some (.ref 84), some (.int v1), some (.int v2), some (.int (0 : Int32)), some (.int v4), some (.int v5), some (.int v6), some (.int v6)], [], M2)) (by decide +kernel) (hO := mm_own_280) rfl ?_
    have hp : mp_280_94 L xs (d + 1) v1 v2 (0 : Int32) v4 v5 v6 M2 o := by
      refine ms_280_L94 hd h hA (fun r4 M3 h => ?_)
      intro y5 y6
      show mm_Runs L xs (d + 1) 280 (121, [some (.ref 84), some (.int v1), some (.int v2), some (.int (0 : Int32)), some (.int v4), some (.int v5), y5, y6], [], M3) o
      exact (ms_280_j121 hd h hA : mp_280_121 L xs (d + 1) v1 v2 (0 : Int32) v4 v5 M3 o) y5 y6
    exact hp (some (.int v6))
set_option maxRecDepth 8000 in
set_option maxHeartbeats 4000000 in
theorem ms_280_b17 {L : Nat} {xs : Nat → Int32} {d : Nat} (hd : 4 ≤ d) {v1 : Int32} {v2 : Int32} {v3 : Int32} {v4 : Int32} {M : mm_M} {q : (((Int32 × Int32) ⊕ (Int32)) ⊕ Nat) × mm_M} {o : mm_E} (h : mf_280_b17 v1 v2 v3 v4 M = some q) (hA : mm_A (mm_K2 (fun s M o => mp_280_17 L xs (d) v1 v2 s.1 s.2 M o) (fun r M o => mp_280_135 L xs (d) v2 r M o)) q o) : mp_280_17 L xs d v1 v2 v3 v4 M o := by
  unfold mf_280_b17 at h
  obtain ⟨d, rfl⟩ := mm_d1 (n := 3) hd
  intro z5 z6 z7
  show mm_Runs L xs (d + 1) 280 (17, [some (.ref 84), some (.int v1), some (.int v2), some (.int v3), some (.int v4), z5, z6, z7], [], M) o
  refine mm_Runs.seq (l := [(17, .iload 4, 2), (19, .iload_n 1, 1)]) (S2 := (20, [some (.ref 84), some (.int v1), some (.int v2), some (.int v3), some (.int v4), z5, z6, z7], [.int v1, .int v4], M)) (by decide +kernel) (hO := mm_own_280) rfl ?_
  refine mm_R_ige (t := 135) rfl rfl rfl (fun hc => ?_) (fun hc => ?_)
  · replace h := mm_ip hc h
    refine mm_Runs.seq (l := [(23, .aload_n 0, 1), (24, .getfield 63, 3), (27, .aload_n 0, 1), (28, .getfield 72, 3), (31, .iload 4, 2)]) (S2 := (33, [some (.ref 84), some (.int v1), some (.int v2), some (.int v3), some (.int v4), z5, z6, z7], [.int v4, .ref 105, .ref 102], M)) (by decide +kernel) (hO := mm_own_280) rfl ?_
    obtain ⟨hb, h⟩ := mm_gd h
    refine mm_R_iald rfl rfl hb ?_
    refine mm_Runs.seq (l := [(34, .iload_n 1, 1), (35, .iadd, 1), (36, .iconst 1, 1), (37, .isub, 1), (38, .iload_n 1, 1)]) (S2 := (39, [some (.ref 84), some (.int v1), some (.int v2), some (.int v3), some (.int v4), z5, z6, z7], [.int v1, .int (((M.1 105 v4.toNatClampNeg) + v1) - (1 : Int32)), .ref 102], M)) (by decide +kernel) (hO := mm_own_280) rfl ?_
    obtain ⟨hb, h⟩ := mm_gd h
    refine mm_R_rem rfl hb ?_
    obtain ⟨hb, h⟩ := mm_gd h
    refine mm_R_iald rfl rfl hb ?_
    refine mm_Runs.seq (l := [(41, .istore 5, 2), (43, .iconst 0, 1), (44, .istore 6, 2)]) (S2 := (46, [some (.ref 84), some (.int v1), some (.int v2), some (.int v3), some (.int v4), some (.int (M.1 102 (mm_rem (((M.1 105 v4.toNatClampNeg) + v1) - (1 : Int32)) v1).toNatClampNeg)), some (.int (0 : Int32)), z7], [], M)) (by decide +kernel) (hO := mm_own_280) rfl ?_
    have hp : mp_280_46 L xs (d + 1) v1 v2 v3 v4 (M.1 102 (mm_rem (((M.1 105 v4.toNatClampNeg) + v1) - (1 : Int32)) v1).toNatClampNeg) (0 : Int32) M o := by
      refine ms_280_L46 hd h hA (fun r2 M1 h => ?_)
      intro y3
      show mm_Runs L xs (d + 1) 280 (64, [some (.ref 84), some (.int v1), some (.int v2), some (.int v3), some (.int v4), some (.int (M.1 102 (mm_rem (((M.1 105 v4.toNatClampNeg) + v1) - (1 : Int32)) v1).toNatClampNeg)), some (.int r2), y3], [], M1) o
      exact (ms_280_j64 hd h hA : mp_280_64 L xs (d + 1) v1 v2 v3 v4 (M.1 102 (mm_rem (((M.1 105 v4.toNatClampNeg) + v1) - (1 : Int32)) v1).toNatClampNeg) r2 M1 o) y3
    exact hp z7
  · replace h := mm_iq hc h
    cases h
    exact (show mp_280_135 L xs (d + 1) v2 v3 M o from hA) (some (.int v1)) (some (.int v4)) z5 z6 z7
theorem ms_280_L17 {L : Nat} {xs : Nat → Int32} {d : Nat} (hd : 4 ≤ d) {v1 : Int32} {v2 : Int32} {v3 : Int32} {v4 : Int32} {β : Type} {K : β → mm_M → mm_E → Prop} {F : (Int32) → mm_M → mm_O β} {M : mm_M} {q : (β ⊕ Nat) × mm_M} {o : mm_E} (h : mm_B (mf_280_L17 v1 v2 (v3, v4) M) F = some q) (hA : mm_A K q o) (hx : ∀ (r : (Int32)) (M2 : mm_M), F r M2 = some q → (fun r M o => mp_280_135 L xs (d) v2 r M o) r M2 o) : mp_280_17 L xs d v1 v2 v3 v4 M o := by
  unfold mf_280_L17 at h
  exact mm_R_loop (step := (fun s M => mf_280_b17 v1 v2 s.1 s.2 M)) (s := (v3, v4)) (M := M) (P := (fun s M o => mp_280_17 L xs (d) v1 v2 s.1 s.2 M o)) (X := (fun r M o => mp_280_135 L xs (d) v2 r M o)) h hA (fun s M q hq hA => ms_280_b17 (v1 := v1) (v2 := v2) (v3 := s.1) (v4 := s.2) (M := M) (q := q) hd hq hA) hx
def mp_280_150 (L : Nat) (xs : Nat → Int32) (d : Nat) (v2 : Int32) (v4 : Int32) (M : mm_M) (o : mm_E) : Prop := ∀ z1 z3 z5 z6 z7 : Option Value, mm_Runs L xs d 280 (150, [some (.ref 84), z1, some (.int v2), z3, some (.int v4), z5, z6, z7], [], M) o
def mp_280_164 (L : Nat) (xs : Nat → Int32) (d : Nat) (v2 : Int32) (v4 : Int32) (M : mm_M) (o : mm_E) : Prop := ∀ z1 z3 z5 z6 z7 : Option Value, mm_Runs L xs d 280 (164, [some (.ref 84), z1, some (.int v2), z3, some (.int v4), z5, z6, z7], [], M) o
set_option maxRecDepth 8000 in
set_option maxHeartbeats 4000000 in
theorem ms_280_b150 {L : Nat} {xs : Nat → Int32} {d : Nat} (hd : 4 ≤ d) {v2 : Int32} {v4 : Int32} {M : mm_M} {q : (((Int32) ⊕ (Int32)) ⊕ Nat) × mm_M} {o : mm_E} (h : mf_280_b150 v2 v4 M = some q) (hA : mm_A (mm_K2 (fun s M o => mp_280_150 L xs (d) v2 s M o) (fun r M o => mp_280_164 L xs (d) v2 r M o)) q o) : mp_280_150 L xs d v2 v4 M o := by
  unfold mf_280_b150 at h
  obtain ⟨d, rfl⟩ := mm_d1 (n := 3) hd
  intro z1 z3 z5 z6 z7
  show mm_Runs L xs (d + 1) 280 (150, [some (.ref 84), z1, some (.int v2), z3, some (.int v4), z5, z6, z7], [], M) o
  refine mm_Runs.seq (l := [(150, .iconst 1, 1), (151, .iload 4, 2), (153, .ishl, 1), (154, .iload_n 2, 1)]) (S2 := (155, [some (.ref 84), z1, some (.int v2), z3, some (.int v4), z5, z6, z7], [.int v2, .int (mm_shl (1 : Int32) v4)], M)) (by decide +kernel) (hO := mm_own_280) rfl ?_
  refine mm_R_ige (t := 164) rfl rfl rfl (fun hc => ?_) (fun hc => ?_)
  · replace h := mm_ip hc h
    refine mm_Runs.seq (l := [(158, .iinc 4 1, 3), (161, .goto (-11), 3)]) (S2 := (150, [some (.ref 84), z1, some (.int v2), (mm_no2 z3), some (.int (v4 + (1 : Int32))), z5, z6, z7], [], M)) (by decide +kernel) (hO := mm_own_280) rfl ?_
    cases h
    exact (show mp_280_150 L xs (d + 1) v2 (v4 + (1 : Int32)) M o from hA) z1 ((mm_no2 z3)) z5 z6 z7
  · replace h := mm_iq hc h
    cases h
    exact (show mp_280_164 L xs (d + 1) v2 v4 M o from hA) z1 z3 z5 z6 z7
theorem ms_280_L150 {L : Nat} {xs : Nat → Int32} {d : Nat} (hd : 4 ≤ d) {v2 : Int32} {v4 : Int32} {β : Type} {K : β → mm_M → mm_E → Prop} {F : (Int32) → mm_M → mm_O β} {M : mm_M} {q : (β ⊕ Nat) × mm_M} {o : mm_E} (h : mm_B (mf_280_L150 v2 v4 M) F = some q) (hA : mm_A K q o) (hx : ∀ (r : (Int32)) (M2 : mm_M), F r M2 = some q → (fun r M o => mp_280_164 L xs (d) v2 r M o) r M2 o) : mp_280_150 L xs d v2 v4 M o := by
  unfold mf_280_L150 at h
  exact mm_R_loop (step := (fun s M => mf_280_b150 v2 s M)) (s := v4) (M := M) (P := (fun s M o => mp_280_150 L xs (d) v2 s M o)) (X := (fun r M o => mp_280_164 L xs (d) v2 r M o)) h hA (fun s M q hq hA => ms_280_b150 (v2 := v2) (v4 := s) (M := M) (q := q) hd hq hA) hx
def mp_280_206 (L : Nat) (xs : Nat → Int32) (d : Nat) (v2 : Int32) (v4 : Int32) (v6 : Int32) (M : mm_M) (o : mm_E) : Prop := ∀ z1 z3 z5 z7 : Option Value, mm_Runs L xs d 280 (206, [some (.ref 84), z1, some (.int v2), z3, some (.int v4), z5, some (.int v6), z7], [], M) o
def mp_280_234 (L : Nat) (xs : Nat → Int32) (d : Nat) (v4 : Int32) (M : mm_M) (o : mm_E) : Prop := ∀ z1 z2 z3 z5 z6 z7 : Option Value, mm_Runs L xs d 280 (234, [some (.ref 84), z1, z2, z3, some (.int v4), z5, z6, z7], [], M) o
set_option maxRecDepth 8000 in
set_option maxHeartbeats 4000000 in
theorem ms_280_b206 {L : Nat} {xs : Nat → Int32} {d : Nat} (hd : 4 ≤ d) {v2 : Int32} {v4 : Int32} {v6 : Int32} {M : mm_M} {q : (((Int32) ⊕ (Unit)) ⊕ Nat) × mm_M} {o : mm_E} (h : mf_280_b206 v2 v4 v6 M = some q) (hA : mm_A (mm_K2 (fun s M o => mp_280_206 L xs (d) v2 v4 s M o) (fun r M o => mp_280_234 L xs (d) v4 M o)) q o) : mp_280_206 L xs d v2 v4 v6 M o := by
  unfold mf_280_b206 at h
  obtain ⟨d, rfl⟩ := mm_d1 (n := 3) hd
  intro z1 z3 z5 z7
  show mm_Runs L xs (d + 1) 280 (206, [some (.ref 84), z1, some (.int v2), z3, some (.int v4), z5, some (.int v6), z7], [], M) o
  refine mm_Runs.seq (l := [(206, .iload 6, 2), (208, .iconst 2, 1)]) (S2 := (209, [some (.ref 84), z1, some (.int v2), z3, some (.int v4), z5, some (.int v6), z7], [.int (2 : Int32), .int v6], M)) (by decide +kernel) (hO := mm_own_280) rfl ?_
  refine mm_R_ige (t := 234) rfl rfl rfl (fun hc => ?_) (fun hc => ?_)
  · replace h := mm_ip hc h
    refine mm_Runs.seq (l := [(212, .aload_n 0, 1), (213, .iload 4, 2), (215, .i2l, 1), (216, .iconst 5, 1), (217, .iconst 1, 1)]) (S2 := (218, [some (.ref 84), z1, some (.int v2), z3, some (.int v4), z5, some (.int v6), z7], [.int (1 : Int32), .int (5 : Int32), .long v4.toInt64, .ref 84], M)) (by decide +kernel) (hO := mm_own_280) rfl ?_
    refine mm_R_call (v := mm_wv) h hA (k2 := 249) (as := [.ref 84, .long v4.toInt64, .int (5 : Int32), .int (1 : Int32)]) (r := []) rfl (fun _ => rfl) (fun q hq o ho => ms_249 (by omega) hq ho) (fun _ M1 h => ?_)
    show mm_Runs L xs (d + 1) 280 (221, [some (.ref 84), z1, some (.int v2), z3, some (.int v4), z5, some (.int v6), z7], [], M1) o
    refine mm_Runs.seq (l := [(221, .aload_n 0, 1), (222, .lconst 0, 1), (223, .iload_n 2, 1), (224, .iconst 1, 1)]) (S2 := (225, [some (.ref 84), z1, some (.int v2), z3, some (.int v4), z5, some (.int v6), z7], [.int (1 : Int32), .int v2, .long (0 : Int64), .ref 84], M1)) (by decide +kernel) (hO := mm_own_280) rfl ?_
    refine mm_R_call (v := mm_wv) h hA (k2 := 249) (as := [.ref 84, .long (0 : Int64), .int v2, .int (1 : Int32)]) (r := []) rfl (fun _ => rfl) (fun q hq o ho => ms_249 (by omega) hq ho) (fun _ M2 h => ?_)
    show mm_Runs L xs (d + 1) 280 (228, [some (.ref 84), z1, some (.int v2), z3, some (.int v4), z5, some (.int v6), z7], [], M2) o
    refine mm_Runs.seq (l := [(228, .iinc 6 1, 3), (231, .goto (-25), 3)]) (S2 := (206, [some (.ref 84), z1, some (.int v2), z3, some (.int v4), (mm_no2 z5), some (.int (v6 + (1 : Int32))), z7], [], M2)) (by decide +kernel) (hO := mm_own_280) rfl ?_
    cases h
    exact (show mp_280_206 L xs (d + 1) v2 v4 (v6 + (1 : Int32)) M2 o from hA) z1 z3 ((mm_no2 z5)) z7
  · replace h := mm_iq hc h
    cases h
    exact (show mp_280_234 L xs (d + 1) v4 M o from hA) z1 (some (.int v2)) z3 z5 (some (.int v6)) z7
theorem ms_280_L206 {L : Nat} {xs : Nat → Int32} {d : Nat} (hd : 4 ≤ d) {v2 : Int32} {v4 : Int32} {v6 : Int32} {β : Type} {K : β → mm_M → mm_E → Prop} {F : (Unit) → mm_M → mm_O β} {M : mm_M} {q : (β ⊕ Nat) × mm_M} {o : mm_E} (h : mm_B (mf_280_L206 v2 v4 v6 M) F = some q) (hA : mm_A K q o) (hx : ∀ (r : (Unit)) (M2 : mm_M), F r M2 = some q → (fun r M o => mp_280_234 L xs (d) v4 M o) r M2 o) : mp_280_206 L xs d v2 v4 v6 M o := by
  unfold mf_280_L206 at h
  exact mm_R_loop (step := (fun s M => mf_280_b206 v2 v4 s M)) (s := v6) (M := M) (P := (fun s M o => mp_280_206 L xs (d) v2 v4 s M o)) (X := (fun r M o => mp_280_234 L xs (d) v4 M o)) h hA (fun s M q hq hA => ms_280_b206 (v2 := v2) (v4 := v4) (v6 := s) (M := M) (q := q) hd hq hA) hx
def mp_280_237 (L : Nat) (xs : Nat → Int32) (d : Nat) (v4 : Int32) (v6 : Int32) (M : mm_M) (o : mm_E) : Prop := ∀ z1 z2 z3 z5 z7 : Option Value, mm_Runs L xs d 280 (237, [some (.ref 84), z1, z2, z3, some (.int v4), z5, some (.int v6), z7], [], M) o
def mp_280_267 (L : Nat) (xs : Nat → Int32) (d : Nat) (M : mm_M) (o : mm_E) : Prop := ∀ z0 z1 z2 z3 z4 z5 z6 z7 : Option Value, mm_Runs L xs d 280 (267, [z0, z1, z2, z3, z4, z5, z6, z7], [], M) o
set_option maxRecDepth 8000 in
set_option maxHeartbeats 4000000 in
theorem ms_280_b237 {L : Nat} {xs : Nat → Int32} {d : Nat} (hd : 4 ≤ d) {v4 : Int32} {v6 : Int32} {M : mm_M} {q : (((Int32) ⊕ (Unit)) ⊕ Nat) × mm_M} {o : mm_E} (h : mf_280_b237 v4 v6 M = some q) (hA : mm_A (mm_K2 (fun s M o => mp_280_237 L xs (d) v4 s M o) (fun r M o => mp_280_267 L xs (d) M o)) q o) : mp_280_237 L xs d v4 v6 M o := by
  unfold mf_280_b237 at h
  obtain ⟨d, rfl⟩ := mm_d1 (n := 3) hd
  intro z1 z2 z3 z5 z7
  show mm_Runs L xs (d + 1) 280 (237, [some (.ref 84), z1, z2, z3, some (.int v4), z5, some (.int v6), z7], [], M) o
  refine mm_Runs.seq (l := [(237, .iload 6, 2), (239, .aload_n 0, 1), (240, .getfield 510, 3)]) (S2 := (243, [some (.ref 84), z1, z2, z3, some (.int v4), z5, some (.int v6), z7], [.int (M.1 84 52), .int v6], M)) (by decide +kernel) (hO := mm_own_280) rfl ?_
  refine mm_R_ige (t := 267) rfl rfl rfl (fun hc => ?_) (fun hc => ?_)
  · replace h := mm_ip hc h
    refine mm_Runs.seq (l := [(246, .aload_n 0, 1), (247, .aload_n 0, 1), (248, .getfield 69, 3), (251, .iload 6, 2)]) (S2 := (253, [some (.ref 84), z1, z2, z3, some (.int v4), z5, some (.int v6), z7], [.int v6, .ref 104, .ref 84], M)) (by decide +kernel) (hO := mm_own_280) rfl ?_
    obtain ⟨hb, h⟩ := mm_gd h
    refine mm_R_iald rfl rfl hb ?_
    refine mm_Runs.seq (l := [(254, .i2l, 1), (255, .iload 4, 2), (257, .iconst 1, 1)]) (S2 := (258, [some (.ref 84), z1, z2, z3, some (.int v4), z5, some (.int v6), z7], [.int (1 : Int32), .int v4, .long (M.1 104 v6.toNatClampNeg).toInt64, .ref 84], M)) (by decide +kernel) (hO := mm_own_280) rfl ?_
    refine mm_R_call (v := mm_wv) h hA (k2 := 249) (as := [.ref 84, .long (M.1 104 v6.toNatClampNeg).toInt64, .int v4, .int (1 : Int32)]) (r := []) rfl (fun _ => rfl) (fun q hq o ho => ms_249 (by omega) hq ho) (fun _ M1 h => ?_)
    show mm_Runs L xs (d + 1) 280 (261, [some (.ref 84), z1, z2, z3, some (.int v4), z5, some (.int v6), z7], [], M1) o
    refine mm_Runs.seq (l := [(261, .iinc 6 1, 3), (264, .goto (-27), 3)]) (S2 := (237, [some (.ref 84), z1, z2, z3, some (.int v4), (mm_no2 z5), some (.int (v6 + (1 : Int32))), z7], [], M1)) (by decide +kernel) (hO := mm_own_280) rfl ?_
    cases h
    exact (show mp_280_237 L xs (d + 1) v4 (v6 + (1 : Int32)) M1 o from hA) z1 z2 z3 ((mm_no2 z5)) z7
  · replace h := mm_iq hc h
    cases h
    exact (show mp_280_267 L xs (d + 1) M o from hA) (some (.ref 84)) z1 z2 z3 (some (.int v4)) z5 (some (.int v6)) z7
theorem ms_280_L237 {L : Nat} {xs : Nat → Int32} {d : Nat} (hd : 4 ≤ d) {v4 : Int32} {v6 : Int32} {β : Type} {K : β → mm_M → mm_E → Prop} {F : (Unit) → mm_M → mm_O β} {M : mm_M} {q : (β ⊕ Nat) × mm_M} {o : mm_E} (h : mm_B (mf_280_L237 v4 v6 M) F = some q) (hA : mm_A K q o) (hx : ∀ (r : (Unit)) (M2 : mm_M), F r M2 = some q → (fun r M o => mp_280_267 L xs (d) M o) r M2 o) : mp_280_237 L xs d v4 v6 M o := by
  unfold mf_280_L237 at h
  exact mm_R_loop (step := (fun s M => mf_280_b237 v4 s M)) (s := v6) (M := M) (P := (fun s M o => mp_280_237 L xs (d) v4 s M o)) (X := (fun r M o => mp_280_267 L xs (d) M o)) h hA (fun s M q hq hA => ms_280_b237 (v4 := v4) (v6 := s) (M := M) (q := q) hd hq hA) hx
set_option maxRecDepth 8000 in
set_option maxHeartbeats 4000000 in
theorem ms_280_j164 {L : Nat} {xs : Nat → Int32} {d : Nat} (hd : 4 ≤ d) {v2 : Int32} {v4 : Int32} {M : mm_M} {q : (Unit ⊕ Nat) × mm_M} {o : mm_E} (h : mf_280_j164 v2 v4 M = some q) (hA : mm_A (mm_Kr mm_wv) q o) : mp_280_164 L xs d v2 v4 M o := by
  unfold mf_280_j164 at h
  obtain ⟨d, rfl⟩ := mm_d1 (n := 3) hd
  intro z1 z3 z5 z6 z7
  show mm_Runs L xs (d + 1) 280 (164, [some (.ref 84), z1, some (.int v2), z3, some (.int v4), z5, z6, z7], [], M) o
  refine mm_Runs.seq (l := [(164, .aload_n 0, 1), (165, .getfield 510, 3), (168, .bipush 49, 2), (170, .iadd, 1), (171, .bipush 50, 2), (173, .idiv, 1), (174, .istore 5, 2), (176, .aload_n 0, 1), (177, .ldc2_w 336, 3), (180, .iconst 3, 1), (181, .iconst 1, 1)]) (S2 := (182, [some (.ref 84), z1, some (.int v2), z3, some (.int v4), some (.int (((M.1 84 52) + (49 : Int32)) / (50 : Int32))), z6, z7], [.int (1 : Int32), .int (3 : Int32), .long (2 : Int64), .ref 84], M)) (by decide +kernel) (hO := mm_own_280) rfl ?_
  refine mm_R_call (v := mm_wv) h hA (k2 := 249) (as := [.ref 84, .long (2 : Int64), .int (3 : Int32), .int (1 : Int32)]) (r := []) rfl (fun _ => rfl) (fun q hq o ho => ms_249 (by omega) hq ho) (fun _ M1 h => ?_)
  show mm_Runs L xs (d + 1) 280 (185, [some (.ref 84), z1, some (.int v2), z3, some (.int v4), some (.int (((M.1 84 52) + (49 : Int32)) / (50 : Int32))), z6, z7], [], M1) o
  refine mm_Runs.seq (l := [(185, .aload_n 0, 1), (186, .iload 5, 2), (188, .i2l, 1), (189, .bipush 15, 2), (191, .iconst 1, 1)]) (S2 := (192, [some (.ref 84), z1, some (.int v2), z3, some (.int v4), some (.int (((M.1 84 52) + (49 : Int32)) / (50 : Int32))), z6, z7], [.int (1 : Int32), .int (15 : Int32), .long (((M.1 84 52) + (49 : Int32)) / (50 : Int32)).toInt64, .ref 84], M1)) (by decide +kernel) (hO := mm_own_280) rfl ?_
  refine mm_R_call (v := mm_wv) h hA (k2 := 249) (as := [.ref 84, .long (((M.1 84 52) + (49 : Int32)) / (50 : Int32)).toInt64, .int (15 : Int32), .int (1 : Int32)]) (r := []) rfl (fun _ => rfl) (fun q hq o ho => ms_249 (by omega) hq ho) (fun _ M2 h => ?_)
  show mm_Runs L xs (d + 1) 280 (195, [some (.ref 84), z1, some (.int v2), z3, some (.int v4), some (.int (((M.1 84 52) + (49 : Int32)) / (50 : Int32))), z6, z7], [], M2) o
  refine mm_Runs.seq (l := [(195, .aload_n 0, 1), (196, .lconst 0, 1), (197, .iload 5, 2), (199, .iconst 1, 1)]) (S2 := (200, [some (.ref 84), z1, some (.int v2), z3, some (.int v4), some (.int (((M.1 84 52) + (49 : Int32)) / (50 : Int32))), z6, z7], [.int (1 : Int32), .int (((M.1 84 52) + (49 : Int32)) / (50 : Int32)), .long (0 : Int64), .ref 84], M2)) (by decide +kernel) (hO := mm_own_280) rfl ?_
  refine mm_R_call (v := mm_wv) h hA (k2 := 249) (as := [.ref 84, .long (0 : Int64), .int (((M.1 84 52) + (49 : Int32)) / (50 : Int32)), .int (1 : Int32)]) (r := []) rfl (fun _ => rfl) (fun q hq o ho => ms_249 (by omega) hq ho) (fun _ M3 h => ?_)
  show mm_Runs L xs (d + 1) 280 (203, [some (.ref 84), z1, some (.int v2), z3, some (.int v4), some (.int (((M.1 84 52) + (49 : Int32)) / (50 : Int32))), z6, z7], [], M3) o
  refine mm_Runs.seq (l := [(203, .iconst 0, 1), (204, .istore 6, 2)]) (S2 := (206, [some (.ref 84), z1, some (.int v2), z3, some (.int v4), some (.int (((M.1 84 52) + (49 : Int32)) / (50 : Int32))), some (.int (0 : Int32)), z7], [], M3)) (by decide +kernel) (hO := mm_own_280) rfl ?_
  have hp : mp_280_206 L xs (d + 1) v2 v4 (0 : Int32) M3 o := by
    refine ms_280_L206 hd h hA (fun r5 M4 h => ?_)
    intro y6 y7 y8 y9 y10 y11
    show mm_Runs L xs (d + 1) 280 (234, [some (.ref 84), y6, y7, y8, some (.int v4), y9, y10, y11], [], M4) o
    refine mm_Runs.seq (l := [(234, .iconst 0, 1), (235, .istore 6, 2)]) (S2 := (237, [some (.ref 84), y6, y7, y8, some (.int v4), (mm_no2 y9), some (.int (0 : Int32)), y11], [], M4)) (by decide +kernel) (hO := mm_own_280) rfl ?_
    have hp : mp_280_237 L xs (d + 1) v4 (0 : Int32) M4 o := by
      refine ms_280_L237 hd h hA (fun r13 M12 h => ?_)
      intro y14 y15 y16 y17 y18 y19 y20 y21
      show mm_Runs L xs (d + 1) 280 (267, [y14, y15, y16, y17, y18, y19, y20, y21], [], M12) o
      cases h
      exact mm_R_retv rfl rfl hA
    exact hp y6 y7 y8 ((mm_no2 y9)) y11
  exact hp z1 z3 (some (.int (((M.1 84 52) + (49 : Int32)) / (50 : Int32)))) z7
set_option maxRecDepth 8000 in
set_option maxHeartbeats 4000000 in
theorem ms_280_j135 {L : Nat} {xs : Nat → Int32} {d : Nat} (hd : 4 ≤ d) {v2 : Int32} {v3 : Int32} {M : mm_M} {q : (Unit ⊕ Nat) × mm_M} {o : mm_E} (h : mf_280_j135 v2 v3 M = some q) (hA : mm_A (mm_Kr mm_wv) q o) : mp_280_135 L xs d v2 v3 M o := by
  unfold mf_280_j135 at h
  obtain ⟨d, rfl⟩ := mm_d1 (n := 3) hd
  intro z1 z4 z5 z6 z7
  show mm_Runs L xs (d + 1) 280 (135, [some (.ref 84), z1, some (.int v2), some (.int v3), z4, z5, z6, z7], [], M) o
  refine mm_Runs.seq (l := [(135, .aload_n 0, 1), (136, .iload_n 3, 1)]) (S2 := (137, [some (.ref 84), z1, some (.int v2), some (.int v3), z4, z5, z6, z7], [.int v3, .ref 84], M)) (by decide +kernel) (hO := mm_own_280) rfl ?_
  refine mm_R_call (v := mm_wv) h hA (k2 := 279) (as := [.ref 84, .int v3]) (r := []) rfl (fun _ => rfl) (fun q hq o ho => ms_279 (by omega) hq ho) (fun _ M1 h => ?_)
  show mm_Runs L xs (d + 1) 280 (140, [some (.ref 84), z1, some (.int v2), some (.int v3), z4, z5, z6, z7], [], M1) o
  refine mm_Runs.seq (l := [(140, .aload_n 0, 1), (141, .iload_n 2, 1), (142, .iconst 1, 1), (143, .isub, 1)]) (S2 := (144, [some (.ref 84), z1, some (.int v2), some (.int v3), z4, z5, z6, z7], [.int (v2 - (1 : Int32)), .ref 84], M1)) (by decide +kernel) (hO := mm_own_280) rfl ?_
  refine mm_R_call (v := mm_wv) h hA (k2 := 278) (as := [.ref 84, .int (v2 - (1 : Int32))]) (r := []) rfl (fun _ => rfl) (fun q hq o ho => ms_278 (by omega) hq ho) (fun _ M2 h => ?_)
  show mm_Runs L xs (d + 1) 280 (147, [some (.ref 84), z1, some (.int v2), some (.int v3), z4, z5, z6, z7], [], M2) o
  refine mm_Runs.seq (l := [(147, .iconst 1, 1), (148, .istore 4, 2)]) (S2 := (150, [some (.ref 84), z1, some (.int v2), some (.int v3), some (.int (1 : Int32)), z5, z6, z7], [], M2)) (by decide +kernel) (hO := mm_own_280) rfl ?_
  have hp : mp_280_150 L xs (d + 1) v2 (1 : Int32) M2 o := by
    refine ms_280_L150 hd h hA (fun r4 M3 h => ?_)
    intro y5 y6 y7 y8 y9
    show mm_Runs L xs (d + 1) 280 (164, [some (.ref 84), y5, some (.int v2), y6, some (.int r4), y7, y8, y9], [], M3) o
    exact (ms_280_j164 hd h hA : mp_280_164 L xs (d + 1) v2 r4 M3 o) y5 y6 y7 y8 y9
  exact hp z1 (some (.int v3)) z5 z6 z7
set_option maxRecDepth 8000 in
set_option maxHeartbeats 4000000 in
theorem ms_280 {L : Nat} {xs : Nat → Int32} {d : Nat} (hd : 4 ≤ d) {v1 : Int32} {M : mm_M} {q : (Unit ⊕ Nat) × mm_M} {o : mm_E} (h : mf_280 v1 M = some q) (hA : mm_A (mm_Kr mm_wv) q o) : mm_Runs L xs d 280 (0, mm_ent (mm_ml 280) [.ref 84, .int v1], [], M) o := by
  unfold mf_280 at h
  obtain ⟨d, rfl⟩ := mm_d1 (n := 3) hd
  show mm_Runs L xs (d + 1) 280 (0, [some (.ref 84), some (.int v1), none, none, none, none, none, none], [], M) o
  refine mm_Runs.seq (l := [(0, .aload_n 0, 1), (1, .getfield 215, 3), (4, .iconst 2, 1), (5, .iadd, 1), (6, .istore_n 2, 1), (7, .aload_n 0, 1), (8, .iconst 0, 1), (9, .putfield 510, 3), (12, .iconst 0, 1), (13, .istore_n 3, 1), (14, .iconst 0, 1), (15, .istore 4, 2)]) (S2 := (17, [some (.ref 84), some (.int v1), some (.int ((M.1 84 20) + (2 : Int32))), some (.int (0 : Int32)), some (.int (0 : Int32)), none, none, none], [], (mm_pi M 84 52 (0 : Int32)))) (by decide +kernel) (hO := mm_own_280) rfl ?_
  have hp : mp_280_17 L xs (d + 1) v1 ((M.1 84 20) + (2 : Int32)) (0 : Int32) (0 : Int32) (mm_pi M 84 52 (0 : Int32)) o := by
    refine ms_280_L17 hd h hA (fun r2 M1 h => ?_)
    intro y3 y4 y5 y6 y7
    show mm_Runs L xs (d + 1) 280 (135, [some (.ref 84), y3, some (.int ((M.1 84 20) + (2 : Int32))), some (.int r2), y4, y5, y6, y7], [], M1) o
    exact (ms_280_j135 hd h hA : mp_280_135 L xs (d + 1) ((M.1 84 20) + (2 : Int32)) r2 M1 o) y3 y4 y5 y6 y7
  exact hp none none none
-- 276: PlainPacksModel.packSorted()V (depth 5)
theorem mm_own_276 : mm_own 276 = 12 := rfl
def mp_276_87 (L : Nat) (xs : Nat → Int32) (d : Nat) (v1 : Int32) (v2 : Int32) (v3 : Int32) (M : mm_M) (o : mm_E) : Prop := mm_Runs L xs d 276 (87, [some (.ref 84), some (.int v1), some (.int v2), some (.int v3)], [], M) o
def mp_276_113 (L : Nat) (xs : Nat → Int32) (d : Nat) (v1 : Int32) (v2 : Int32) (v3 : Int32) (M : mm_M) (o : mm_E) : Prop := mm_Runs L xs d 276 (113, [some (.ref 84), some (.int v1), some (.int v2), some (.int v3)], [], M) o
set_option maxRecDepth 8000 in
set_option maxHeartbeats 4000000 in
theorem ms_276_b87 {L : Nat} {xs : Nat → Int32} {d : Nat} (hd : 5 ≤ d) {v1 : Int32} {v2 : Int32} {v3 : Int32} {M : mm_M} {q : (((Int32) ⊕ (Int32)) ⊕ Nat) × mm_M} {o : mm_E} (h : mf_276_b87 v1 v2 v3 M = some q) (hA : mm_A (mm_K2 (fun s M o => mp_276_87 L xs (d) v1 v2 s M o) (fun r M o => mp_276_113 L xs (d) v1 v2 r M o)) q o) : mp_276_87 L xs d v1 v2 v3 M o := by
  unfold mf_276_b87 at h
  obtain ⟨d, rfl⟩ := mm_d1 (n := 4) hd
  show mm_Runs L xs (d + 1) 276 (87, [some (.ref 84), some (.int v1), some (.int v2), some (.int v3)], [], M) o
  refine mm_Runs.seq (l := [(87, .aload_n 0, 1), (88, .getfield 66, 3), (91, .aload_n 0, 1), (92, .getfield 72, 3), (95, .iload_n 3, 1)]) (S2 := (96, [some (.ref 84), some (.int v1), some (.int v2), some (.int v3)], [.int v3, .ref 105, .ref 103], M)) (by decide +kernel) (hO := mm_own_276) rfl ?_
  obtain ⟨hb, h⟩ := mm_gd h
  refine mm_R_iald rfl rfl hb ?_
  obtain ⟨hb, h⟩ := mm_gd h
  refine mm_R_iald rfl rfl hb ?_
  refine mm_Runs.seq (l := [(98, .aload_n 0, 1), (99, .getfield 66, 3), (102, .iconst 0, 1)]) (S2 := (103, [some (.ref 84), some (.int v1), some (.int v2), some (.int v3)], [.int (0 : Int32), .ref 103, .int (M.1 103 (M.1 105 v3.toNatClampNeg).toNatClampNeg)], M)) (by decide +kernel) (hO := mm_own_276) rfl ?_
  obtain ⟨hb, h⟩ := mm_gd h
  refine mm_R_iald rfl rfl hb ?_
  refine mm_R_ieq (t := 113) rfl rfl rfl (fun hc => ?_) (fun hc => ?_)
  · replace h := mm_ip hc h
    cases h
    exact (show mp_276_113 L xs (d + 1) v1 v2 v3 M o from hA)
  · replace h := mm_iq hc h
    refine mm_Runs.seq (l := [(107, .iinc 3 1, 3), (110, .goto (-23), 3)]) (S2 := (87, [some (.ref 84), some (.int v1), some (.int v2), some (.int (v3 + (1 : Int32)))], [], M)) (by decide +kernel) (hO := mm_own_276) rfl ?_
    cases h
    exact (show mp_276_87 L xs (d + 1) v1 v2 (v3 + (1 : Int32)) M o from hA)
theorem ms_276_L87 {L : Nat} {xs : Nat → Int32} {d : Nat} (hd : 5 ≤ d) {v1 : Int32} {v2 : Int32} {v3 : Int32} {β : Type} {K : β → mm_M → mm_E → Prop} {F : (Int32) → mm_M → mm_O β} {M : mm_M} {q : (β ⊕ Nat) × mm_M} {o : mm_E} (h : mm_B (mf_276_L87 v1 v2 v3 M) F = some q) (hA : mm_A K q o) (hx : ∀ (r : (Int32)) (M2 : mm_M), F r M2 = some q → (fun r M o => mp_276_113 L xs (d) v1 v2 r M o) r M2 o) : mp_276_87 L xs d v1 v2 v3 M o := by
  unfold mf_276_L87 at h
  exact mm_R_loop (step := (fun s M => mf_276_b87 v1 v2 s M)) (s := v3) (M := M) (P := (fun s M o => mp_276_87 L xs (d) v1 v2 s M o)) (X := (fun r M o => mp_276_113 L xs (d) v1 v2 r M o)) h hA (fun s M q hq hA => ms_276_b87 (v1 := v1) (v2 := v2) (v3 := s) (M := M) (q := q) hd hq hA) hx
def mp_276_132 (L : Nat) (xs : Nat → Int32) (d : Nat) (v1 : Int32) (M : mm_M) (o : mm_E) : Prop := ∀ z2 z3 : Option Value, mm_Runs L xs d 276 (132, [some (.ref 84), some (.int v1), z2, z3], [], M) o
def mp_276_156 (L : Nat) (xs : Nat → Int32) (d : Nat) (s1 : Int64) (M : mm_M) (o : mm_E) : Prop := ∀ z1 z2 z3 : Option Value, mm_Runs L xs d 276 (156, [some (.ref 84), z1, z2, z3], [.long s1, .ref 84], M) o
set_option maxRecDepth 8000 in
set_option maxHeartbeats 4000000 in
theorem ms_276_j156 {L : Nat} {xs : Nat → Int32} {d : Nat} (hd : 5 ≤ d) {s1 : Int64} {M : mm_M} {q : (Unit ⊕ Nat) × mm_M} {o : mm_E} (h : mf_276_j156 s1 M = some q) (hA : mm_A (mm_Kr mm_wv) q o) : mp_276_156 L xs d s1 M o := by
  unfold mf_276_j156 at h
  obtain ⟨d, rfl⟩ := mm_d1 (n := 4) hd
  intro z1 z2 z3
  show mm_Runs L xs (d + 1) 276 (156, [some (.ref 84), z1, z2, z3], [.long s1, .ref 84], M) o
  refine mm_Runs.seq (l := [(156, .bipush 32, 2), (158, .iconst 1, 1)]) (S2 := (159, [some (.ref 84), z1, z2, z3], [.int (1 : Int32), .int (32 : Int32), .long s1, .ref 84], M)) (by decide +kernel) (hO := mm_own_276) rfl ?_
  refine mm_R_call (v := mm_wv) h hA (k2 := 249) (as := [.ref 84, .long s1, .int (32 : Int32), .int (1 : Int32)]) (r := []) rfl (fun _ => rfl) (fun q hq o ho => ms_249 (by omega) hq ho) (fun _ M1 h => ?_)
  show mm_Runs L xs (d + 1) 276 (162, [some (.ref 84), z1, z2, z3], [], M1) o
  refine mm_Runs.seq (l := [(162, .aload_n 0, 1)]) (S2 := (163, [some (.ref 84), z1, z2, z3], [.ref 84], M1)) (by decide +kernel) (hO := mm_own_276) rfl ?_
  refine mm_R_call (v := mm_wv) h hA (k2 := 248) (as := [.ref 84]) (r := []) rfl (fun _ => rfl) (fun q hq o ho => ms_248 (by omega) hq ho) (fun _ M2 h => ?_)
  show mm_Runs L xs (d + 1) 276 (166, [some (.ref 84), z1, z2, z3], [], M2) o
  cases h
  exact mm_R_retv rfl rfl hA
set_option maxRecDepth 8000 in
set_option maxHeartbeats 4000000 in
theorem ms_276_j132 {L : Nat} {xs : Nat → Int32} {d : Nat} (hd : 5 ≤ d) {v1 : Int32} {M : mm_M} {q : (Unit ⊕ Nat) × mm_M} {o : mm_E} (h : mf_276_j132 v1 M = some q) (hA : mm_A (mm_Kr mm_wv) q o) : mp_276_132 L xs d v1 M o := by
  unfold mf_276_j132 at h
  obtain ⟨d, rfl⟩ := mm_d1 (n := 4) hd
  intro z2 z3
  show mm_Runs L xs (d + 1) 276 (132, [some (.ref 84), some (.int v1), z2, z3], [], M) o
  refine mm_Runs.seq (l := [(132, .aload_n 0, 1), (133, .ldc2_w 282, 3), (136, .bipush 48, 2), (138, .iconst 1, 1)]) (S2 := (139, [some (.ref 84), some (.int v1), z2, z3], [.int (1 : Int32), .int (48 : Int32), .long (25779555029136 : Int64), .ref 84], M)) (by decide +kernel) (hO := mm_own_276) rfl ?_
  refine mm_R_call (v := mm_wv) h hA (k2 := 249) (as := [.ref 84, .long (25779555029136 : Int64), .int (48 : Int32), .int (1 : Int32)]) (r := []) rfl (fun _ => rfl) (fun q hq o ho => ms_249 (by omega) hq ho) (fun _ M1 h => ?_)
  show mm_Runs L xs (d + 1) 276 (142, [some (.ref 84), some (.int v1), z2, z3], [], M1) o
  refine mm_Runs.seq (l := [(142, .aload_n 0, 1), (143, .aload_n 0, 1), (144, .getfield 91, 3)]) (S2 := (147, [some (.ref 84), some (.int v1), z2, z3], [.int (M1.1 84 2), .ref 84], M1)) (by decide +kernel) (hO := mm_own_276) rfl ?_
  refine mm_R_zle (t := 155) rfl rfl rfl (fun hc => ?_) (fun hc => ?_)
  · replace h := mm_ip hc h
    refine mm_Runs.seq (l := [(150, .iload_n 1, 1), (151, .i2l, 1), (152, .goto 4, 3)]) (S2 := (156, [some (.ref 84), some (.int v1), z2, z3], [.long v1.toInt64, .ref 84], M1)) (by decide +kernel) (hO := mm_own_276) rfl ?_
    exact (ms_276_j156 hd h hA : mp_276_156 L xs (d + 1) v1.toInt64 M1 o) (some (.int v1)) z2 z3
  · replace h := mm_iq hc h
    refine mm_Runs.seq (l := [(155, .lconst 0, 1)]) (S2 := (156, [some (.ref 84), some (.int v1), z2, z3], [.long (0 : Int64), .ref 84], M1)) (by decide +kernel) (hO := mm_own_276) rfl ?_
    exact (ms_276_j156 hd h hA : mp_276_156 L xs (d + 1) (0 : Int64) M1 o) (some (.int v1)) z2 z3
set_option maxRecDepth 8000 in
set_option maxHeartbeats 4000000 in
theorem ms_276_j113 {L : Nat} {xs : Nat → Int32} {d : Nat} (hd : 5 ≤ d) {v1 : Int32} {v2 : Int32} {v3 : Int32} {M : mm_M} {q : (Unit ⊕ Nat) × mm_M} {o : mm_E} (h : mf_276_j113 v1 v2 v3 M = some q) (hA : mm_A (mm_Kr mm_wv) q o) : mp_276_113 L xs d v1 v2 v3 M o := by
  unfold mf_276_j113 at h
  obtain ⟨d, rfl⟩ := mm_d1 (n := 4) hd
  show mm_Runs L xs (d + 1) 276 (113, [some (.ref 84), some (.int v1), some (.int v2), some (.int v3)], [], M) o
  refine mm_Runs.seq (l := [(113, .aload_n 0, 1), (114, .iload_n 3, 1), (115, .i2l, 1), (116, .bipush 24, 2), (118, .iconst 1, 1)]) (S2 := (119, [some (.ref 84), some (.int v1), some (.int v2), some (.int v3)], [.int (1 : Int32), .int (24 : Int32), .long v3.toInt64, .ref 84], M)) (by decide +kernel) (hO := mm_own_276) rfl ?_
  refine mm_R_call (v := mm_wv) h hA (k2 := 249) (as := [.ref 84, .long v3.toInt64, .int (24 : Int32), .int (1 : Int32)]) (r := []) rfl (fun _ => rfl) (fun q hq o ho => ms_249 (by omega) hq ho) (fun _ M1 h => ?_)
  show mm_Runs L xs (d + 1) 276 (122, [some (.ref 84), some (.int v1), some (.int v2), some (.int v3)], [], M1) o
  refine mm_Runs.seq (l := [(122, .aload_n 0, 1), (123, .iload_n 2, 1)]) (S2 := (124, [some (.ref 84), some (.int v1), some (.int v2), some (.int v3)], [.int v2, .ref 84], M1)) (by decide +kernel) (hO := mm_own_276) rfl ?_
  refine mm_R_call (v := mm_wv) h hA (k2 := 277) (as := [.ref 84, .int v2]) (r := []) rfl (fun _ => rfl) (fun q hq o ho => ms_277 (by omega) hq ho) (fun _ M2 h => ?_)
  show mm_Runs L xs (d + 1) 276 (127, [some (.ref 84), some (.int v1), some (.int v2), some (.int v3)], [], M2) o
  refine mm_Runs.seq (l := [(127, .aload_n 0, 1), (128, .iload_n 2, 1)]) (S2 := (129, [some (.ref 84), some (.int v1), some (.int v2), some (.int v3)], [.int v2, .ref 84], M2)) (by decide +kernel) (hO := mm_own_276) rfl ?_
  refine mm_R_call (v := mm_wv) h hA (k2 := 280) (as := [.ref 84, .int v2]) (r := []) rfl (fun _ => rfl) (fun q hq o ho => ms_280 (by omega) hq ho) (fun _ M3 h => ?_)
  show mm_Runs L xs (d + 1) 276 (132, [some (.ref 84), some (.int v1), some (.int v2), some (.int v3)], [], M3) o
  exact (ms_276_j132 hd h hA : mp_276_132 L xs (d + 1) v1 M3 o) (some (.int v2)) (some (.int v3))
set_option maxRecDepth 8000 in
set_option maxHeartbeats 4000000 in
theorem ms_276 {L : Nat} {xs : Nat → Int32} {d : Nat} (hd : 5 ≤ d) {M : mm_M} {q : (Unit ⊕ Nat) × mm_M} {o : mm_E} (h : mf_276 M = some q) (hA : mm_A (mm_Kr mm_wv) q o) : mm_Runs L xs d 276 (0, mm_ent (mm_ml 276) [.ref 84], [], M) o := by
  unfold mf_276 at h
  obtain ⟨d, rfl⟩ := mm_d1 (n := 4) hd
  show mm_Runs L xs (d + 1) 276 (0, [some (.ref 84), none, none, none], [], M) o
  refine mm_Runs.seq (l := [(0, .aload_n 0, 1), (1, .iconst 1, 1), (2, .putfield 178, 3), (5, .aload_n 0, 1), (6, .bipush 66, 2)]) (S2 := (8, [some (.ref 84), none, none, none], [.int (66 : Int32), .ref 84], (mm_pi M 84 13 (1 : Int32)))) (by decide +kernel) (hO := mm_own_276) rfl ?_
  refine mm_R_call (v := mm_wv) h hA (k2 := 245) (as := [.ref 84, .int (66 : Int32)]) (r := []) rfl (fun _ => rfl) (fun q hq o ho => ms_245 (by omega) hq ho) (fun _ M1 h => ?_)
  show mm_Runs L xs (d + 1) 276 (11, [some (.ref 84), none, none, none], [], M1) o
  refine mm_Runs.seq (l := [(11, .aload_n 0, 1), (12, .bipush 90, 2)]) (S2 := (14, [some (.ref 84), none, none, none], [.int (90 : Int32), .ref 84], M1)) (by decide +kernel) (hO := mm_own_276) rfl ?_
  refine mm_R_call (v := mm_wv) h hA (k2 := 245) (as := [.ref 84, .int (90 : Int32)]) (r := []) rfl (fun _ => rfl) (fun q hq o ho => ms_245 (by omega) hq ho) (fun _ M2 h => ?_)
  show mm_Runs L xs (d + 1) 276 (17, [some (.ref 84), none, none, none], [], M2) o
  refine mm_Runs.seq (l := [(17, .aload_n 0, 1), (18, .bipush 104, 2)]) (S2 := (20, [some (.ref 84), none, none, none], [.int (104 : Int32), .ref 84], M2)) (by decide +kernel) (hO := mm_own_276) rfl ?_
  refine mm_R_call (v := mm_wv) h hA (k2 := 245) (as := [.ref 84, .int (104 : Int32)]) (r := []) rfl (fun _ => rfl) (fun q hq o ho => ms_245 (by omega) hq ho) (fun _ M3 h => ?_)
  show mm_Runs L xs (d + 1) 276 (23, [some (.ref 84), none, none, none], [], M3) o
  refine mm_Runs.seq (l := [(23, .aload_n 0, 1), (24, .bipush 49, 2)]) (S2 := (26, [some (.ref 84), none, none, none], [.int (49 : Int32), .ref 84], M3)) (by decide +kernel) (hO := mm_own_276) rfl ?_
  refine mm_R_call (v := mm_wv) h hA (k2 := 245) (as := [.ref 84, .int (49 : Int32)]) (r := []) rfl (fun _ => rfl) (fun q hq o ho => ms_245 (by omega) hq ho) (fun _ M4 h => ?_)
  show mm_Runs L xs (d + 1) 276 (29, [some (.ref 84), none, none, none], [], M4) o
  refine mm_Runs.seq (l := [(29, .aload_n 0, 1), (30, .getfield 7, 3), (33, .iconst 0, 1), (34, .aload_n 0, 1), (35, .getfield 91, 3)]) (S2 := (38, [some (.ref 84), none, none, none], [.int (M4.1 84 2), .int (0 : Int32), .ref 85], M4)) (by decide +kernel) (hO := mm_own_276) rfl ?_
  refine mm_R_call (v := mm_wi) h hA (k2 := 183) (as := [.ref 85, .int (0 : Int32), .int (M4.1 84 2)]) (r := []) rfl (fun _ => rfl) (fun q hq o ho => ms_183 rfl (by omega) hq ho) (fun r5 M6 h => ?_)
  show mm_Runs L xs (d + 1) 276 (41, [some (.ref 84), none, none, none], [.int r5], M6) o
  refine mm_Runs.seq (l := [(41, .istore_n 1, 1), (42, .aload_n 0, 1), (43, .getfield 91, 3)]) (S2 := (46, [some (.ref 84), some (.int r5), none, none], [.int (M6.1 84 2)], M6)) (by decide +kernel) (hO := mm_own_276) rfl ?_
  refine mm_R_zle (t := 132) rfl rfl rfl (fun hc => ?_) (fun hc => ?_)
  · replace h := mm_ip hc h
    refine mm_Runs.seq (l := [(49, .aload_n 0, 1)]) (S2 := (50, [some (.ref 84), some (.int r5), none, none], [.ref 84], M6)) (by decide +kernel) (hO := mm_own_276) rfl ?_
    refine mm_R_call (v := mm_wi) h hA (k2 := 275) (as := [.ref 84]) (r := []) rfl (fun _ => rfl) (fun q hq o ho => ms_275 (by omega) hq ho) (fun r7 M8 h => ?_)
    show mm_Runs L xs (d + 1) 276 (53, [some (.ref 84), some (.int r5), none, none], [.int r7], M8) o
    refine mm_Runs.seq (l := [(53, .istore_n 2, 1), (54, .aload_n 0, 1), (55, .iload_n 2, 1)]) (S2 := (56, [some (.ref 84), some (.int r5), some (.int r7), none], [.int r7, .ref 84], M8)) (by decide +kernel) (hO := mm_own_276) rfl ?_
    refine mm_R_call (v := mm_wv) h hA (k2 := 273) (as := [.ref 84, .int r7]) (r := []) rfl (fun _ => rfl) (fun q hq o ho => ms_273 (by omega) hq ho) (fun _ M9 h => ?_)
    show mm_Runs L xs (d + 1) 276 (59, [some (.ref 84), some (.int r5), some (.int r7), none], [], M9) o
    refine mm_Runs.seq (l := [(59, .aload_n 0, 1), (60, .ldc2_w 284, 3), (63, .bipush 48, 2), (65, .iconst 1, 1)]) (S2 := (66, [some (.ref 84), some (.int r5), some (.int r7), none], [.int (1 : Int32), .int (48 : Int32), .long (54156738319193 : Int64), .ref 84], M9)) (by decide +kernel) (hO := mm_own_276) rfl ?_
    refine mm_R_call (v := mm_wv) h hA (k2 := 249) (as := [.ref 84, .long (54156738319193 : Int64), .int (48 : Int32), .int (1 : Int32)]) (r := []) rfl (fun _ => rfl) (fun q hq o ho => ms_249 (by omega) hq ho) (fun _ M10 h => ?_)
    show mm_Runs L xs (d + 1) 276 (69, [some (.ref 84), some (.int r5), some (.int r7), none], [], M10) o
    refine mm_Runs.seq (l := [(69, .aload_n 0, 1), (70, .iload_n 1, 1), (71, .i2l, 1), (72, .bipush 32, 2), (74, .iconst 1, 1)]) (S2 := (75, [some (.ref 84), some (.int r5), some (.int r7), none], [.int (1 : Int32), .int (32 : Int32), .long r5.toInt64, .ref 84], M10)) (by decide +kernel) (hO := mm_own_276) rfl ?_
    refine mm_R_call (v := mm_wv) h hA (k2 := 249) (as := [.ref 84, .long r5.toInt64, .int (32 : Int32), .int (1 : Int32)]) (r := []) rfl (fun _ => rfl) (fun q hq o ho => ms_249 (by omega) hq ho) (fun _ M11 h => ?_)
    show mm_Runs L xs (d + 1) 276 (78, [some (.ref 84), some (.int r5), some (.int r7), none], [], M11) o
    refine mm_Runs.seq (l := [(78, .aload_n 0, 1), (79, .lconst 0, 1), (80, .iconst 1, 1), (81, .iconst 1, 1)]) (S2 := (82, [some (.ref 84), some (.int r5), some (.int r7), none], [.int (1 : Int32), .int (1 : Int32), .long (0 : Int64), .ref 84], M11)) (by decide +kernel) (hO := mm_own_276) rfl ?_
    refine mm_R_call (v := mm_wv) h hA (k2 := 249) (as := [.ref 84, .long (0 : Int64), .int (1 : Int32), .int (1 : Int32)]) (r := []) rfl (fun _ => rfl) (fun q hq o ho => ms_249 (by omega) hq ho) (fun _ M12 h => ?_)
    show mm_Runs L xs (d + 1) 276 (85, [some (.ref 84), some (.int r5), some (.int r7), none], [], M12) o
    refine mm_Runs.seq (l := [(85, .iconst 0, 1), (86, .istore_n 3, 1)]) (S2 := (87, [some (.ref 84), some (.int r5), some (.int r7), some (.int (0 : Int32))], [], M12)) (by decide +kernel) (hO := mm_own_276) rfl ?_
    have hp : mp_276_87 L xs (d + 1) r5 r7 (0 : Int32) M12 o := by
      refine ms_276_L87 hd h hA (fun r14 M13 h => ?_)
      show mm_Runs L xs (d + 1) 276 (113, [some (.ref 84), some (.int r5), some (.int r7), some (.int r14)], [], M13) o
      exact (ms_276_j113 hd h hA : mp_276_113 L xs (d + 1) r5 r7 r14 M13 o)
    exact hp
  · replace h := mm_iq hc h
    exact (ms_276_j132 hd h hA : mp_276_132 L xs (d + 1) r5 M6 o) none none
-- 281: PlainPacksModel.carry()V (depth 0)
theorem mm_own_281 : mm_own 281 = 12 := rfl
def mp_281_30 (L : Nat) (xs : Nat → Int32) (d : Nat) (v1 : Int32) (M : mm_M) (o : mm_E) : Prop := mm_Runs L xs d 281 (30, [some (.ref 84), some (.int v1)], [], M) o
def mp_281_59 (L : Nat) (xs : Nat → Int32) (d : Nat) (v1 : Int32) (M : mm_M) (o : mm_E) : Prop := mm_Runs L xs d 281 (59, [some (.ref 84), some (.int v1)], [], M) o
set_option maxRecDepth 8000 in
set_option maxHeartbeats 4000000 in
theorem ms_281_b30 {L : Nat} {xs : Nat → Int32} {d : Nat} (hd : 0 ≤ d) {v1 : Int32} {M : mm_M} {q : (((Int32) ⊕ (Int32)) ⊕ Nat) × mm_M} {o : mm_E} (h : mf_281_b30 v1 M = some q) (hA : mm_A (mm_K2 (fun s M o => mp_281_30 L xs (d) s M o) (fun r M o => mp_281_59 L xs (d) r M o)) q o) : mp_281_30 L xs d v1 M o := by
  unfold mf_281_b30 at h
  show mm_Runs L xs (d) 281 (30, [some (.ref 84), some (.int v1)], [], M) o
  refine mm_Runs.seq (l := [(30, .iload_n 1, 1)]) (S2 := (31, [some (.ref 84), some (.int v1)], [.int v1], M)) (by decide +kernel) (hO := mm_own_281) rfl ?_
  refine mm_R_zlt (t := 59) rfl rfl rfl (fun hc => ?_) (fun hc => ?_)
  · replace h := mm_ip hc h
    cases h
    exact (show mp_281_59 L xs (d) v1 M o from hA)
  · replace h := mm_iq hc h
    refine mm_Runs.seq (l := [(34, .aload_n 0, 1), (35, .getfield 63, 3), (38, .iload_n 1, 1)]) (S2 := (39, [some (.ref 84), some (.int v1)], [.int v1, .ref 102], M)) (by decide +kernel) (hO := mm_own_281) rfl ?_
    obtain ⟨hb, h⟩ := mm_gd h
    refine mm_R_iald rfl rfl hb ?_
    refine mm_Runs.seq (l := [(40, .sipush 255, 3)]) (S2 := (43, [some (.ref 84), some (.int v1)], [.int (255 : Int32), .int (M.1 102 v1.toNatClampNeg)], M)) (by decide +kernel) (hO := mm_own_281) rfl ?_
    refine mm_R_ine (t := 59) rfl rfl rfl (fun hc => ?_) (fun hc => ?_)
    · replace h := mm_ip hc h
      refine mm_Runs.seq (l := [(46, .aload_n 0, 1), (47, .getfield 63, 3), (50, .iload_n 1, 1), (51, .iconst 0, 1)]) (S2 := (52, [some (.ref 84), some (.int v1)], [.int (0 : Int32), .int v1, .ref 102], M)) (by decide +kernel) (hO := mm_own_281) rfl ?_
      obtain ⟨hb, h⟩ := mm_gd h
      refine mm_R_iast rfl rfl hb ?_
      refine mm_Runs.seq (l := [(53, .iinc 1 (-1), 3), (56, .goto (-26), 3)]) (S2 := (30, [some (.ref 84), some (.int (v1 + (-1 : Int32)))], [], (mm_pi M 102 v1.toNatClampNeg (0 : Int32)))) (by decide +kernel) (hO := mm_own_281) rfl ?_
      cases h
      exact (show mp_281_30 L xs (d) (v1 + (-1 : Int32)) (mm_pi M 102 v1.toNatClampNeg (0 : Int32)) o from hA)
    · replace h := mm_iq hc h
      cases h
      exact (show mp_281_59 L xs (d) v1 M o from hA)
theorem ms_281_L30 {L : Nat} {xs : Nat → Int32} {d : Nat} (hd : 0 ≤ d) {v1 : Int32} {β : Type} {K : β → mm_M → mm_E → Prop} {F : (Int32) → mm_M → mm_O β} {M : mm_M} {q : (β ⊕ Nat) × mm_M} {o : mm_E} (h : mm_B (mf_281_L30 v1 M) F = some q) (hA : mm_A K q o) (hx : ∀ (r : (Int32)) (M2 : mm_M), F r M2 = some q → (fun r M o => mp_281_59 L xs (d) r M o) r M2 o) : mp_281_30 L xs d v1 M o := by
  unfold mf_281_L30 at h
  exact mm_R_loop (step := (fun s M => mf_281_b30 s M)) (s := v1) (M := M) (P := (fun s M o => mp_281_30 L xs (d) s M o)) (X := (fun r M o => mp_281_59 L xs (d) r M o)) h hA (fun s M q hq hA => ms_281_b30 (v1 := s) (M := M) (q := q) hd hq hA) hx
set_option maxRecDepth 8000 in
set_option maxHeartbeats 4000000 in
theorem ms_281_j59 {L : Nat} {xs : Nat → Int32} {d : Nat} (hd : 0 ≤ d) {v1 : Int32} {M : mm_M} {q : (Unit ⊕ Nat) × mm_M} {o : mm_E} (h : mf_281_j59 v1 M = some q) (hA : mm_A (mm_Kr mm_wv) q o) : mp_281_59 L xs d v1 M o := by
  unfold mf_281_j59 at h
  show mm_Runs L xs (d) 281 (59, [some (.ref 84), some (.int v1)], [], M) o
  refine mm_Runs.seq (l := [(59, .aload_n 0, 1), (60, .getfield 63, 3), (63, .iload_n 1, 1), (64, .dup2, 1)]) (S2 := (65, [some (.ref 84), some (.int v1)], [.int v1, .ref 102, .int v1, .ref 102], M)) (by decide +kernel) (hO := mm_own_281) rfl ?_
  obtain ⟨hb, h⟩ := mm_gd h
  refine mm_R_iald rfl rfl hb ?_
  refine mm_Runs.seq (l := [(66, .iconst 1, 1), (67, .iadd, 1)]) (S2 := (68, [some (.ref 84), some (.int v1)], [.int ((M.1 102 v1.toNatClampNeg) + (1 : Int32)), .int v1, .ref 102], M)) (by decide +kernel) (hO := mm_own_281) rfl ?_
  obtain ⟨hb, h⟩ := mm_gd h
  refine mm_R_iast rfl rfl hb ?_
  cases h
  exact mm_R_retv rfl rfl hA
set_option maxRecDepth 8000 in
set_option maxHeartbeats 4000000 in
theorem ms_281 {L : Nat} {xs : Nat → Int32} {d : Nat} (hd : 0 ≤ d) {M : mm_M} {q : (Unit ⊕ Nat) × mm_M} {o : mm_E} (h : mf_281 M = some q) (hA : mm_A (mm_Kr mm_wv) q o) : mm_Runs L xs d 281 (0, mm_ent (mm_ml 281) [.ref 84], [], M) o := by
  unfold mf_281 at h
  show mm_Runs L xs (d) 281 (0, [some (.ref 84), none], [], M) o
  refine mm_Runs.seq (l := [(0, .aload_n 0, 1), (1, .getfield 519, 3), (4, .ldc2_w 272, 3)]) (S2 := (7, [some (.ref 84), none], [.long (4294967295 : Int64), .long (M.2.1 84 53)], M)) (by decide +kernel) (hO := mm_own_281) rfl ?_
  refine mm_R_lle (t := 69) rfl rfl rfl rfl (fun hc => ?_) (fun hc => ?_)
  · replace h := mm_ip hc h
    refine mm_Runs.seq (l := [(11, .aload_n 0, 1), (12, .dup, 1), (13, .getfield 519, 3), (16, .ldc2_w 272, 3), (19, .land, 1), (20, .putfield 519, 3), (23, .aload_n 0, 1), (24, .getfield 522, 3), (27, .iconst 1, 1), (28, .isub, 1), (29, .istore_n 1, 1)]) (S2 := (30, [some (.ref 84), some (.int ((M.1 84 54) - (1 : Int32)))], [], (mm_pl M 84 53 ((M.2.1 84 53) &&& (4294967295 : Int64))))) (by decide +kernel) (hO := mm_own_281) rfl ?_
    have hp : mp_281_30 L xs (d) ((M.1 84 54) - (1 : Int32)) (mm_pl M 84 53 ((M.2.1 84 53) &&& (4294967295 : Int64))) o := by
      refine ms_281_L30 hd h hA (fun r2 M1 h => ?_)
      show mm_Runs L xs (d) 281 (59, [some (.ref 84), some (.int r2)], [], M1) o
      exact (ms_281_j59 hd h hA : mp_281_59 L xs (d) r2 M1 o)
    exact hp
  · replace h := mm_iq hc h
    cases h
    exact mm_R_retv rfl rfl hA
