/-! MEANINGS 40 -/
-- 284: PlainPacksModel.pack(I)I (depth 7)
theorem mm_own_284 : mm_own 284 = 12 := rfl
def mp_284_15 (L : Nat) (xs : Nat → Int32) (d : Nat) (v1 : Int32) (M : mm_M) (o : mm_E) : Prop := ∀ z2 : Option Value, mm_Runs L xs d 284 (15, [some (.ref 84), some (.int v1), z2], [.ref 84], M) o
def mp_284_16 (L : Nat) (xs : Nat → Int32) (d : Nat) (v1 : Int32) (s1 : Int32) (M : mm_M) (o : mm_E) : Prop := ∀ z2 : Option Value, mm_Runs L xs d 284 (16, [some (.ref 84), some (.int v1), z2], [.int s1, .ref 84], M) o
def mp_284_179 (L : Nat) (xs : Nat → Int32) (d : Nat) (M : mm_M) (o : mm_E) : Prop := ∀ z1 z2 : Option Value, mm_Runs L xs d 284 (179, [some (.ref 84), z1, z2], [], M) o
def mp_284_193 (L : Nat) (xs : Nat → Int32) (d : Nat) (v2 : Int32) (M : mm_M) (o : mm_E) : Prop := ∀ z1 : Option Value, mm_Runs L xs d 284 (193, [some (.ref 84), z1, some (.int v2)], [], M) o
def mp_284_219 (L : Nat) (xs : Nat → Int32) (d : Nat) (M : mm_M) (o : mm_E) : Prop := ∀ z1 z2 : Option Value, mm_Runs L xs d 284 (219, [some (.ref 84), z1, z2], [], M) o
noncomputable def mf_284_b193 (v2 : Int32) (M : mm_M) : mm_O ((Int32) ⊕ (Unit)) := if v2 < (M.1 84 41) then (if mm_in v2 16384 then if mm_in v2 16384 then some (.inl (.inl (v2 + (1 : Int32))), (mm_pi M 86 v2.toNatClampNeg (M.1 100 v2.toNatClampNeg))) else none else none) else (some (.inl (.inr ()), M))
noncomputable def mf_284_L193 (s : Int32) (M : mm_M) : mm_O (Unit) := mm_L (fun s M => mf_284_b193 s M) s M
set_option maxRecDepth 8000 in
set_option maxHeartbeats 4000000 in
theorem ms_284_b193 {L : Nat} {xs : Nat → Int32} {d : Nat} (hd : 7 ≤ d) {v2 : Int32} {M : mm_M} {q : (((Int32) ⊕ (Unit)) ⊕ Nat) × mm_M} {o : mm_E} (h : mf_284_b193 v2 M = some q) (hA : mm_A (mm_K2 (fun s M o => mp_284_193 L xs (d) s M o) (fun r M o => mp_284_219 L xs (d) M o)) q o) : mp_284_193 L xs d v2 M o := by
  unfold mf_284_b193 at h
  obtain ⟨d, rfl⟩ := mm_d1 (n := 6) hd
  intro z1
  show mm_Runs L xs (d + 1) 284 (193, [some (.ref 84), z1, some (.int v2)], [], M) o
  refine mm_Runs.seq (l := [(193, .iload_n 2, 1), (194, .aload_n 0, 1), (195, .getfield 406, 3)]) (S2 := (198, [some (.ref 84), z1, some (.int v2)], [.int (M.1 84 41), .int v2], M)) (by decide +kernel) (hO := mm_own_284) rfl ?_
  refine mm_R_ige (t := 219) rfl rfl rfl (fun hc => ?_) (fun hc => ?_)
  · replace h := mm_ip hc h
    refine mm_Runs.seq (l := [(201, .aload_n 0, 1), (202, .getfield 13, 3), (205, .iload_n 2, 1), (206, .aload_n 0, 1), (207, .getfield 57, 3), (210, .iload_n 2, 1)]) (S2 := (211, [some (.ref 84), z1, some (.int v2)], [.int v2, .ref 100, .int v2, .ref 86], M)) (by decide +kernel) (hO := mm_own_284) rfl ?_
    obtain ⟨hb, h⟩ := mm_gd h
    refine mm_R_iald rfl rfl hb ?_
    obtain ⟨hb, h⟩ := mm_gd h
    refine mm_R_iast rfl rfl hb ?_
    refine mm_Runs.seq (l := [(213, .iinc 2 1, 3), (216, .goto (-23), 3)]) (S2 := (193, [some (.ref 84), (mm_no2 z1), some (.int (v2 + (1 : Int32)))], [], (mm_pi M 86 v2.toNatClampNeg (M.1 100 v2.toNatClampNeg)))) (by decide +kernel) (hO := mm_own_284) rfl ?_
    cases h
    exact (show mp_284_193 L xs (d + 1) (v2 + (1 : Int32)) (mm_pi M 86 v2.toNatClampNeg (M.1 100 v2.toNatClampNeg)) o from hA) ((mm_no2 z1))
  · replace h := mm_iq hc h
    cases h
    exact (show mp_284_219 L xs (d + 1) M o from hA) z1 (some (.int v2))
theorem ms_284_L193 {L : Nat} {xs : Nat → Int32} {d : Nat} (hd : 7 ≤ d) {v2 : Int32} {β : Type} {K : β → mm_M → mm_E → Prop} {F : (Unit) → mm_M → mm_O β} {M : mm_M} {q : (β ⊕ Nat) × mm_M} {o : mm_E} (h : mm_B (mf_284_L193 v2 M) F = some q) (hA : mm_A K q o) (hx : ∀ (r : (Unit)) (M2 : mm_M), F r M2 = some q → (fun r M o => mp_284_219 L xs (d) M o) r M2 o) : mp_284_193 L xs d v2 M o := mm_R_loop (s := v2) (M := M) (P := (fun s M o => mp_284_193 L xs (d) s M o)) (X := (fun r M o => mp_284_219 L xs (d) M o)) h hA (fun s M q hq hA => ms_284_b193 hd hq hA) hx
noncomputable def mf_284_j179 (M : mm_M) : mm_O Int32 := if (16384 : Int32) < (M.1 84 41) then (some (.inl (-1 : Int32), M)) else (mm_B (mf_284_L193 (0 : Int32) M) (fun r2 M1 => some (.inl (M1.1 84 41), (mm_pi M1 84 4 (M1.1 84 41)))))
set_option maxRecDepth 8000 in
set_option maxHeartbeats 4000000 in
theorem ms_284_j179 {L : Nat} {xs : Nat → Int32} {d : Nat} (hd : 7 ≤ d) {M : mm_M} {q : (Int32 ⊕ Nat) × mm_M} {o : mm_E} (h : mf_284_j179 M = some q) (hA : mm_A (mm_Kr mm_wi) q o) : mp_284_179 L xs d M o := by
  unfold mf_284_j179 at h
  obtain ⟨d, rfl⟩ := mm_d1 (n := 6) hd
  intro z1 z2
  show mm_Runs L xs (d + 1) 284 (179, [some (.ref 84), z1, z2], [], M) o
  refine mm_Runs.seq (l := [(179, .aload_n 0, 1), (180, .getfield 406, 3), (183, .sipush 16384, 3)]) (S2 := (186, [some (.ref 84), z1, z2], [.int (16384 : Int32), .int (M.1 84 41)], M)) (by decide +kernel) (hO := mm_own_284) rfl ?_
  refine mm_R_ile (t := 191) rfl rfl rfl (fun hc => ?_) (fun hc => ?_)
  · replace h := mm_ip hc h
    refine mm_Runs.seq (l := [(189, .iconst (-1), 1)]) (S2 := (190, [some (.ref 84), z1, z2], [.int (-1 : Int32)], M)) (by decide +kernel) (hO := mm_own_284) rfl ?_
    cases h
    exact mm_R_reti rfl rfl hA
  · replace h := mm_iq hc h
    refine mm_Runs.seq (l := [(191, .iconst 0, 1), (192, .istore_n 2, 1)]) (S2 := (193, [some (.ref 84), (mm_no2 z1), some (.int (0 : Int32))], [], M)) (by decide +kernel) (hO := mm_own_284) rfl ?_
    have hp : mp_284_193 L xs (d + 1) (0 : Int32) M o := by
      refine ms_284_L193 hd h hA (fun r2 M1 h => ?_)
      intro y3 y4
      show mm_Runs L xs (d + 1) 284 (219, [some (.ref 84), y3, y4], [], M1) o
      refine mm_Runs.seq (l := [(219, .aload_n 0, 1), (220, .aload_n 0, 1), (221, .getfield 406, 3), (224, .putfield 98, 3), (227, .aload_n 0, 1), (228, .getfield 98, 3)]) (S2 := (231, [some (.ref 84), y3, y4], [.int (M1.1 84 41)], (mm_pi M1 84 4 (M1.1 84 41)))) (by decide +kernel) (hO := mm_own_284) rfl ?_
      cases h
      exact mm_R_reti rfl rfl hA
    exact hp ((mm_no2 z1))
noncomputable def mf_284_j16 (v1 : Int32) (s1 : Int32) (M : mm_M) : mm_O Int32 := mm_B (mf_174 s1 M) (fun r1 M2 => if r1 = 0 then (some (.inl (0 : Int32), M2)) else (if v1 = (0 : Int32) then (mm_B (mf_252 (mm_pi (mm_pi (mm_pi M2 84 41 (0 : Int32)) 84 42 (0 : Int32)) 84 43 (0 : Int32))) (fun _ M3 => mf_284_j179 M3)) else if v1 = (1 : Int32) then (mm_B (mf_285 v1 (mm_pi (mm_pi (mm_pi M2 84 41 (0 : Int32)) 84 42 (0 : Int32)) 84 43 (0 : Int32))) (fun _ M4 => mf_284_j179 M4)) else if v1 = (2 : Int32) then (mm_B (mf_285 v1 (mm_pi (mm_pi (mm_pi M2 84 41 (0 : Int32)) 84 42 (0 : Int32)) 84 43 (0 : Int32))) (fun _ M5 => mf_284_j179 M5)) else if v1 = (3 : Int32) then (mm_B (mf_285 v1 (mm_pi (mm_pi (mm_pi M2 84 41 (0 : Int32)) 84 42 (0 : Int32)) 84 43 (0 : Int32))) (fun _ M6 => mf_284_j179 M6)) else if v1 = (4 : Int32) then (mm_B (mf_245 (8 : Int32) (mm_pi (mm_pi (mm_pi (mm_pi M2 84 41 (0 : Int32)) 84 42 (0 : Int32)) 84 43 (0 : Int32)) 84 13 (0 : Int32))) (fun _ M7 => mm_B (mf_261 (8 : Int32) (0 : Int32) M7) (fun _ M8 => mf_284_j179 M8))) else if v1 = (5 : Int32) then (mm_B (mf_261 (8 : Int32) (1 : Int32) (mm_pi (mm_pi (mm_pi (mm_pi M2 84 41 (0 : Int32)) 84 42 (0 : Int32)) 84 43 (0 : Int32)) 84 13 (1 : Int32))) (fun _ M9 => mf_284_j179 M9)) else if v1 = (6 : Int32) then (mm_B (mf_265 (mm_pi (mm_pi (mm_pi M2 84 41 (0 : Int32)) 84 42 (0 : Int32)) 84 43 (0 : Int32))) (fun _ M10 => mf_284_j179 M10)) else if v1 = (7 : Int32) then (mm_B (mf_266 (mm_pi (mm_pi (mm_pi M2 84 41 (0 : Int32)) 84 42 (0 : Int32)) 84 43 (0 : Int32))) (fun _ M11 => mf_284_j179 M11)) else if v1 = (8 : Int32) then (mm_B (mf_269 (mm_pi (mm_pi (mm_pi M2 84 41 (0 : Int32)) 84 42 (0 : Int32)) 84 43 (0 : Int32))) (fun _ M12 => mf_284_j179 M12)) else if v1 = (9 : Int32) then (mm_B (mf_276 (mm_pi (mm_pi (mm_pi M2 84 41 (0 : Int32)) 84 42 (0 : Int32)) 84 43 (0 : Int32))) (fun _ M13 => mf_284_j179 M13)) else (mm_B (mf_283 (mm_pi (mm_pi (mm_pi M2 84 41 (0 : Int32)) 84 42 (0 : Int32)) 84 43 (0 : Int32))) (fun _ M14 => mf_284_j179 M14))))
set_option maxRecDepth 8000 in
set_option maxHeartbeats 4000000 in
theorem ms_284_j16 {L : Nat} {xs : Nat → Int32} {d : Nat} (hd : 7 ≤ d) {v1 : Int32} {s1 : Int32} {M : mm_M} {q : (Int32 ⊕ Nat) × mm_M} {o : mm_E} (h : mf_284_j16 v1 s1 M = some q) (hA : mm_A (mm_Kr mm_wi) q o) : mp_284_16 L xs d v1 s1 M o := by
  unfold mf_284_j16 at h
  obtain ⟨d, rfl⟩ := mm_d1 (n := 6) hd
  intro z2
  show mm_Runs L xs (d + 1) 284 (16, [some (.ref 84), some (.int v1), z2], [.int s1, .ref 84], M) o
  refine mm_R_call (v := mm_wi) h hA (k2 := 174) (as := [.ref 84, .int s1]) (r := []) rfl (fun _ => rfl) (fun q hq o ho => ms_174 (by omega) hq ho) (fun r1 M2 h => ?_)
  show mm_Runs L xs (d + 1) 284 (19, [some (.ref 84), some (.int v1), z2], [.int r1], M2) o
  refine mm_R_zne (t := 24) rfl rfl rfl (fun hc => ?_) (fun hc => ?_)
  · replace h := mm_ip hc h
    refine mm_Runs.seq (l := [(22, .iconst 0, 1)]) (S2 := (23, [some (.ref 84), some (.int v1), z2], [.int (0 : Int32)], M2)) (by decide +kernel) (hO := mm_own_284) rfl ?_
    cases h
    exact mm_R_reti rfl rfl hA
  · replace h := mm_iq hc h
    refine mm_Runs.seq (l := [(24, .aload_n 0, 1), (25, .iconst 0, 1), (26, .putfield 406, 3), (29, .aload_n 0, 1), (30, .iconst 0, 1), (31, .putfield 412, 3), (34, .aload_n 0, 1), (35, .iconst 0, 1), (36, .putfield 415, 3), (39, .iload_n 1, 1)]) (S2 := (40, [some (.ref 84), some (.int v1), z2], [.int v1], (mm_pi (mm_pi (mm_pi M2 84 41 (0 : Int32)) 84 42 (0 : Int32)) 84 43 (0 : Int32)))) (by decide +kernel) (hO := mm_own_284) rfl ?_
    by_cases hc0 : v1 = (0 : Int32)
    · replace h := mm_ip hc0 h
      refine mm_R_sw (t := 96) rfl rfl rfl (by rw [hc0]; rfl) ?_
      refine mm_Runs.seq (l := [(96, .aload_n 0, 1)]) (S2 := (97, [some (.ref 84), some (.int v1), z2], [.ref 84], (mm_pi (mm_pi (mm_pi M2 84 41 (0 : Int32)) 84 42 (0 : Int32)) 84 43 (0 : Int32)))) (by decide +kernel) (hO := mm_own_284) rfl ?_
      refine mm_R_call (v := mm_wv) h hA (k2 := 252) (as := [.ref 84]) (r := []) rfl (fun _ => rfl) (fun q hq o ho => ms_252 (by omega) hq ho) (fun _ M3 h => ?_)
      show mm_Runs L xs (d + 1) 284 (100, [some (.ref 84), some (.int v1), z2], [], M3) o
      refine mm_Runs.seq (l := [(100, .goto 79, 3)]) (S2 := (179, [some (.ref 84), some (.int v1), z2], [], M3)) (by decide +kernel) (hO := mm_own_284) rfl ?_
      exact (ms_284_j179 hd h hA : mp_284_179 L xs (d + 1) M3 o) (some (.int v1)) z2
    replace h := mm_iq hc0 h
    by_cases hc1 : v1 = (1 : Int32)
    · replace h := mm_ip hc1 h
      refine mm_R_sw (t := 103) rfl rfl rfl (by rw [hc1]; rfl) ?_
      refine mm_Runs.seq (l := [(103, .aload_n 0, 1), (104, .iload_n 1, 1)]) (S2 := (105, [some (.ref 84), some (.int v1), z2], [.int v1, .ref 84], (mm_pi (mm_pi (mm_pi M2 84 41 (0 : Int32)) 84 42 (0 : Int32)) 84 43 (0 : Int32)))) (by decide +kernel) (hO := mm_own_284) rfl ?_
      refine mm_R_call (v := mm_wv) h hA (k2 := 285) (as := [.ref 84, .int v1]) (r := []) rfl (fun _ => rfl) (fun q hq o ho => ms_285 (by omega) hq ho) (fun _ M4 h => ?_)
      show mm_Runs L xs (d + 1) 284 (108, [some (.ref 84), some (.int v1), z2], [], M4) o
      refine mm_Runs.seq (l := [(108, .goto 71, 3)]) (S2 := (179, [some (.ref 84), some (.int v1), z2], [], M4)) (by decide +kernel) (hO := mm_own_284) rfl ?_
      exact (ms_284_j179 hd h hA : mp_284_179 L xs (d + 1) M4 o) (some (.int v1)) z2
    replace h := mm_iq hc1 h
    by_cases hc2 : v1 = (2 : Int32)
    · replace h := mm_ip hc2 h
      refine mm_R_sw (t := 103) rfl rfl rfl (by rw [hc2]; rfl) ?_
      refine mm_Runs.seq (l := [(103, .aload_n 0, 1), (104, .iload_n 1, 1)]) (S2 := (105, [some (.ref 84), some (.int v1), z2], [.int v1, .ref 84], (mm_pi (mm_pi (mm_pi M2 84 41 (0 : Int32)) 84 42 (0 : Int32)) 84 43 (0 : Int32)))) (by decide +kernel) (hO := mm_own_284) rfl ?_
      refine mm_R_call (v := mm_wv) h hA (k2 := 285) (as := [.ref 84, .int v1]) (r := []) rfl (fun _ => rfl) (fun q hq o ho => ms_285 (by omega) hq ho) (fun _ M5 h => ?_)
      show mm_Runs L xs (d + 1) 284 (108, [some (.ref 84), some (.int v1), z2], [], M5) o
      refine mm_Runs.seq (l := [(108, .goto 71, 3)]) (S2 := (179, [some (.ref 84), some (.int v1), z2], [], M5)) (by decide +kernel) (hO := mm_own_284) rfl ?_
      exact (ms_284_j179 hd h hA : mp_284_179 L xs (d + 1) M5 o) (some (.int v1)) z2
    replace h := mm_iq hc2 h
    by_cases hc3 : v1 = (3 : Int32)
    · replace h := mm_ip hc3 h
      refine mm_R_sw (t := 103) rfl rfl rfl (by rw [hc3]; rfl) ?_
      refine mm_Runs.seq (l := [(103, .aload_n 0, 1), (104, .iload_n 1, 1)]) (S2 := (105, [some (.ref 84), some (.int v1), z2], [.int v1, .ref 84], (mm_pi (mm_pi (mm_pi M2 84 41 (0 : Int32)) 84 42 (0 : Int32)) 84 43 (0 : Int32)))) (by decide +kernel) (hO := mm_own_284) rfl ?_
      refine mm_R_call (v := mm_wv) h hA (k2 := 285) (as := [.ref 84, .int v1]) (r := []) rfl (fun _ => rfl) (fun q hq o ho => ms_285 (by omega) hq ho) (fun _ M6 h => ?_)
      show mm_Runs L xs (d + 1) 284 (108, [some (.ref 84), some (.int v1), z2], [], M6) o
      refine mm_Runs.seq (l := [(108, .goto 71, 3)]) (S2 := (179, [some (.ref 84), some (.int v1), z2], [], M6)) (by decide +kernel) (hO := mm_own_284) rfl ?_
      exact (ms_284_j179 hd h hA : mp_284_179 L xs (d + 1) M6 o) (some (.int v1)) z2
    replace h := mm_iq hc3 h
    by_cases hc4 : v1 = (4 : Int32)
    · replace h := mm_ip hc4 h
      refine mm_R_sw (t := 111) rfl rfl rfl (by rw [hc4]; rfl) ?_
      refine mm_Runs.seq (l := [(111, .aload_n 0, 1), (112, .iconst 0, 1), (113, .putfield 178, 3), (116, .aload_n 0, 1), (117, .bipush 8, 2)]) (S2 := (119, [some (.ref 84), some (.int v1), z2], [.int (8 : Int32), .ref 84], (mm_pi (mm_pi (mm_pi (mm_pi M2 84 41 (0 : Int32)) 84 42 (0 : Int32)) 84 43 (0 : Int32)) 84 13 (0 : Int32)))) (by decide +kernel) (hO := mm_own_284) rfl ?_
      refine mm_R_call (v := mm_wv) h hA (k2 := 245) (as := [.ref 84, .int (8 : Int32)]) (r := []) rfl (fun _ => rfl) (fun q hq o ho => ms_245 (by omega) hq ho) (fun _ M7 h => ?_)
      show mm_Runs L xs (d + 1) 284 (122, [some (.ref 84), some (.int v1), z2], [], M7) o
      refine mm_Runs.seq (l := [(122, .aload_n 0, 1), (123, .bipush 8, 2), (125, .iconst 0, 1)]) (S2 := (126, [some (.ref 84), some (.int v1), z2], [.int (0 : Int32), .int (8 : Int32), .ref 84], M7)) (by decide +kernel) (hO := mm_own_284) rfl ?_
      refine mm_R_call (v := mm_wv) h hA (k2 := 261) (as := [.ref 84, .int (8 : Int32), .int (0 : Int32)]) (r := []) rfl (fun _ => rfl) (fun q hq o ho => ms_261 (by omega) hq ho) (fun _ M8 h => ?_)
      show mm_Runs L xs (d + 1) 284 (129, [some (.ref 84), some (.int v1), z2], [], M8) o
      refine mm_Runs.seq (l := [(129, .goto 50, 3)]) (S2 := (179, [some (.ref 84), some (.int v1), z2], [], M8)) (by decide +kernel) (hO := mm_own_284) rfl ?_
      exact (ms_284_j179 hd h hA : mp_284_179 L xs (d + 1) M8 o) (some (.int v1)) z2
    replace h := mm_iq hc4 h
    by_cases hc5 : v1 = (5 : Int32)
    · replace h := mm_ip hc5 h
      refine mm_R_sw (t := 132) rfl rfl rfl (by rw [hc5]; rfl) ?_
      refine mm_Runs.seq (l := [(132, .aload_n 0, 1), (133, .iconst 1, 1), (134, .putfield 178, 3), (137, .aload_n 0, 1), (138, .bipush 8, 2), (140, .iconst 1, 1)]) (S2 := (141, [some (.ref 84), some (.int v1), z2], [.int (1 : Int32), .int (8 : Int32), .ref 84], (mm_pi (mm_pi (mm_pi (mm_pi M2 84 41 (0 : Int32)) 84 42 (0 : Int32)) 84 43 (0 : Int32)) 84 13 (1 : Int32)))) (by decide +kernel) (hO := mm_own_284) rfl ?_
      refine mm_R_call (v := mm_wv) h hA (k2 := 261) (as := [.ref 84, .int (8 : Int32), .int (1 : Int32)]) (r := []) rfl (fun _ => rfl) (fun q hq o ho => ms_261 (by omega) hq ho) (fun _ M9 h => ?_)
      show mm_Runs L xs (d + 1) 284 (144, [some (.ref 84), some (.int v1), z2], [], M9) o
      refine mm_Runs.seq (l := [(144, .goto 35, 3)]) (S2 := (179, [some (.ref 84), some (.int v1), z2], [], M9)) (by decide +kernel) (hO := mm_own_284) rfl ?_
      exact (ms_284_j179 hd h hA : mp_284_179 L xs (d + 1) M9 o) (some (.int v1)) z2
    replace h := mm_iq hc5 h
    by_cases hc6 : v1 = (6 : Int32)
    · replace h := mm_ip hc6 h
      refine mm_R_sw (t := 147) rfl rfl rfl (by rw [hc6]; rfl) ?_
      refine mm_Runs.seq (l := [(147, .aload_n 0, 1)]) (S2 := (148, [some (.ref 84), some (.int v1), z2], [.ref 84], (mm_pi (mm_pi (mm_pi M2 84 41 (0 : Int32)) 84 42 (0 : Int32)) 84 43 (0 : Int32)))) (by decide +kernel) (hO := mm_own_284) rfl ?_
      refine mm_R_call (v := mm_wv) h hA (k2 := 265) (as := [.ref 84]) (r := []) rfl (fun _ => rfl) (fun q hq o ho => ms_265 (by omega) hq ho) (fun _ M10 h => ?_)
      show mm_Runs L xs (d + 1) 284 (151, [some (.ref 84), some (.int v1), z2], [], M10) o
      refine mm_Runs.seq (l := [(151, .goto 28, 3)]) (S2 := (179, [some (.ref 84), some (.int v1), z2], [], M10)) (by decide +kernel) (hO := mm_own_284) rfl ?_
      exact (ms_284_j179 hd h hA : mp_284_179 L xs (d + 1) M10 o) (some (.int v1)) z2
    replace h := mm_iq hc6 h
    by_cases hc7 : v1 = (7 : Int32)
    · replace h := mm_ip hc7 h
      refine mm_R_sw (t := 154) rfl rfl rfl (by rw [hc7]; rfl) ?_
      refine mm_Runs.seq (l := [(154, .aload_n 0, 1)]) (S2 := (155, [some (.ref 84), some (.int v1), z2], [.ref 84], (mm_pi (mm_pi (mm_pi M2 84 41 (0 : Int32)) 84 42 (0 : Int32)) 84 43 (0 : Int32)))) (by decide +kernel) (hO := mm_own_284) rfl ?_
      refine mm_R_call (v := mm_wv) h hA (k2 := 266) (as := [.ref 84]) (r := []) rfl (fun _ => rfl) (fun q hq o ho => ms_266 (by omega) hq ho) (fun _ M11 h => ?_)
      show mm_Runs L xs (d + 1) 284 (158, [some (.ref 84), some (.int v1), z2], [], M11) o
      refine mm_Runs.seq (l := [(158, .goto 21, 3)]) (S2 := (179, [some (.ref 84), some (.int v1), z2], [], M11)) (by decide +kernel) (hO := mm_own_284) rfl ?_
      exact (ms_284_j179 hd h hA : mp_284_179 L xs (d + 1) M11 o) (some (.int v1)) z2
    replace h := mm_iq hc7 h
    by_cases hc8 : v1 = (8 : Int32)
    · replace h := mm_ip hc8 h
      refine mm_R_sw (t := 161) rfl rfl rfl (by rw [hc8]; rfl) ?_
      refine mm_Runs.seq (l := [(161, .aload_n 0, 1)]) (S2 := (162, [some (.ref 84), some (.int v1), z2], [.ref 84], (mm_pi (mm_pi (mm_pi M2 84 41 (0 : Int32)) 84 42 (0 : Int32)) 84 43 (0 : Int32)))) (by decide +kernel) (hO := mm_own_284) rfl ?_
      refine mm_R_call (v := mm_wv) h hA (k2 := 269) (as := [.ref 84]) (r := []) rfl (fun _ => rfl) (fun q hq o ho => ms_269 (by omega) hq ho) (fun _ M12 h => ?_)
      show mm_Runs L xs (d + 1) 284 (165, [some (.ref 84), some (.int v1), z2], [], M12) o
      refine mm_Runs.seq (l := [(165, .goto 14, 3)]) (S2 := (179, [some (.ref 84), some (.int v1), z2], [], M12)) (by decide +kernel) (hO := mm_own_284) rfl ?_
      exact (ms_284_j179 hd h hA : mp_284_179 L xs (d + 1) M12 o) (some (.int v1)) z2
    replace h := mm_iq hc8 h
    by_cases hc9 : v1 = (9 : Int32)
    · replace h := mm_ip hc9 h
      refine mm_R_sw (t := 168) rfl rfl rfl (by rw [hc9]; rfl) ?_
      refine mm_Runs.seq (l := [(168, .aload_n 0, 1)]) (S2 := (169, [some (.ref 84), some (.int v1), z2], [.ref 84], (mm_pi (mm_pi (mm_pi M2 84 41 (0 : Int32)) 84 42 (0 : Int32)) 84 43 (0 : Int32)))) (by decide +kernel) (hO := mm_own_284) rfl ?_
      refine mm_R_call (v := mm_wv) h hA (k2 := 276) (as := [.ref 84]) (r := []) rfl (fun _ => rfl) (fun q hq o ho => ms_276 (by omega) hq ho) (fun _ M13 h => ?_)
      show mm_Runs L xs (d + 1) 284 (172, [some (.ref 84), some (.int v1), z2], [], M13) o
      refine mm_Runs.seq (l := [(172, .goto 7, 3)]) (S2 := (179, [some (.ref 84), some (.int v1), z2], [], M13)) (by decide +kernel) (hO := mm_own_284) rfl ?_
      exact (ms_284_j179 hd h hA : mp_284_179 L xs (d + 1) M13 o) (some (.int v1)) z2
    replace h := mm_iq hc9 h
    have e0 := mm_i32 (n := 0) hc0 (by decide) (by decide)
    have e1 := mm_i32 (n := 1) hc1 (by decide) (by decide)
    have e2 := mm_i32 (n := 2) hc2 (by decide) (by decide)
    have e3 := mm_i32 (n := 3) hc3 (by decide) (by decide)
    have e4 := mm_i32 (n := 4) hc4 (by decide) (by decide)
    have e5 := mm_i32 (n := 5) hc5 (by decide) (by decide)
    have e6 := mm_i32 (n := 6) hc6 (by decide) (by decide)
    have e7 := mm_i32 (n := 7) hc7 (by decide) (by decide)
    have e8 := mm_i32 (n := 8) hc8 (by decide) (by decide)
    have e9 := mm_i32 (n := 9) hc9 (by decide) (by decide)
    refine mm_R_sw (t := 175) rfl rfl rfl (mm_tsd (by omega) rfl rfl) ?_
    refine mm_Runs.seq (l := [(175, .aload_n 0, 1)]) (S2 := (176, [some (.ref 84), some (.int v1), z2], [.ref 84], (mm_pi (mm_pi (mm_pi M2 84 41 (0 : Int32)) 84 42 (0 : Int32)) 84 43 (0 : Int32)))) (by decide +kernel) (hO := mm_own_284) rfl ?_
    refine mm_R_call (v := mm_wv) h hA (k2 := 283) (as := [.ref 84]) (r := []) rfl (fun _ => rfl) (fun q hq o ho => ms_283 (by omega) hq ho) (fun _ M14 h => ?_)
    show mm_Runs L xs (d + 1) 284 (179, [some (.ref 84), some (.int v1), z2], [], M14) o
    exact (ms_284_j179 hd h hA : mp_284_179 L xs (d + 1) M14 o) (some (.int v1)) z2
noncomputable def mf_284_j15 (v1 : Int32) (M : mm_M) : mm_O Int32 := mf_284_j16 v1 (0 : Int32) M
set_option maxRecDepth 8000 in
set_option maxHeartbeats 4000000 in
theorem ms_284_j15 {L : Nat} {xs : Nat → Int32} {d : Nat} (hd : 7 ≤ d) {v1 : Int32} {M : mm_M} {q : (Int32 ⊕ Nat) × mm_M} {o : mm_E} (h : mf_284_j15 v1 M = some q) (hA : mm_A (mm_Kr mm_wi) q o) : mp_284_15 L xs d v1 M o := by
  unfold mf_284_j15 at h
  obtain ⟨d, rfl⟩ := mm_d1 (n := 6) hd
  intro z2
  show mm_Runs L xs (d + 1) 284 (15, [some (.ref 84), some (.int v1), z2], [.ref 84], M) o
  refine mm_Runs.seq (l := [(15, .iconst 0, 1)]) (S2 := (16, [some (.ref 84), some (.int v1), z2], [.int (0 : Int32), .ref 84], M)) (by decide +kernel) (hO := mm_own_284) rfl ?_
  exact (ms_284_j16 hd h hA : mp_284_16 L xs (d + 1) v1 (0 : Int32) M o) z2
noncomputable def mf_284 (v1 : Int32) (M : mm_M) : mm_O Int32 := if v1 < 0 then (mf_284_j15 v1 M) else (if (10 : Int32) < v1 then (mf_284_j15 v1 M) else (mf_284_j16 v1 (1 : Int32) M))
set_option maxRecDepth 8000 in
set_option maxHeartbeats 4000000 in
theorem ms_284 {L : Nat} {xs : Nat → Int32} {d : Nat} (hd : 7 ≤ d) {v1 : Int32} {M : mm_M} {q : (Int32 ⊕ Nat) × mm_M} {o : mm_E} (h : mf_284 v1 M = some q) (hA : mm_A (mm_Kr mm_wi) q o) : mm_Runs L xs d 284 (0, mm_ent (mm_ml 284) [.ref 84, .int v1], [], M) o := by
  unfold mf_284 at h
  obtain ⟨d, rfl⟩ := mm_d1 (n := 6) hd
  show mm_Runs L xs (d + 1) 284 (0, [some (.ref 84), some (.int v1), none], [], M) o
  refine mm_Runs.seq (l := [(0, .aload_n 0, 1), (1, .iload_n 1, 1)]) (S2 := (2, [some (.ref 84), some (.int v1), none], [.int v1, .ref 84], M)) (by decide +kernel) (hO := mm_own_284) rfl ?_
  refine mm_R_zlt (t := 15) rfl rfl rfl (fun hc => ?_) (fun hc => ?_)
  · replace h := mm_ip hc h
    exact (ms_284_j15 hd h hA : mp_284_15 L xs (d + 1) v1 M o) none
  · replace h := mm_iq hc h
    refine mm_Runs.seq (l := [(5, .iload_n 1, 1), (6, .bipush 10, 2)]) (S2 := (8, [some (.ref 84), some (.int v1), none], [.int (10 : Int32), .int v1, .ref 84], M)) (by decide +kernel) (hO := mm_own_284) rfl ?_
    refine mm_R_igt (t := 15) rfl rfl rfl (fun hc => ?_) (fun hc => ?_)
    · replace h := mm_ip hc h
      exact (ms_284_j15 hd h hA : mp_284_15 L xs (d + 1) v1 M o) none
    · replace h := mm_iq hc h
      refine mm_Runs.seq (l := [(11, .iconst 1, 1), (12, .goto 4, 3)]) (S2 := (16, [some (.ref 84), some (.int v1), none], [.int (1 : Int32), .ref 84], M)) (by decide +kernel) (hO := mm_own_284) rfl ?_
      exact (ms_284_j16 hd h hA : mp_284_16 L xs (d + 1) v1 (1 : Int32) M o) none
-- 21: PlainPacks.sum(I)I (depth 7)
theorem mm_own_21 : mm_own 21 = 0 := rfl
noncomputable def mf_21 (v1 : Int32) (M : mm_M) : mm_O Int32 := if v1 = (0 : Int32) then (mm_B (mf_28 2 10000 (0 : Int32) (M.1 1 1) M) (fun r1 M2 => some (.inl r1, M2))) else if v1 = (1 : Int32) then (mm_B (mf_29 2 10000 (0 : Int32) (M.1 1 1) M) (fun r3 M4 => some (.inl r3, M4))) else if v1 = (2 : Int32) then (mm_B (mf_30 2 10000 (0 : Int32) (M.1 1 1) M) (fun r5 M6 => some (.inl r5, M6))) else if v1 = (3 : Int32) then (mm_B (mf_31 2 10000 (0 : Int32) (M.1 1 1) M) (fun r7 M8 => some (.inl r7, M8))) else (some (.inr 1, mm_th M))
set_option maxRecDepth 8000 in
set_option maxHeartbeats 4000000 in
theorem ms_21 {L : Nat} {xs : Nat → Int32} {d : Nat} (hd : 7 ≤ d) {v1 : Int32} {M : mm_M} {q : (Int32 ⊕ Nat) × mm_M} {o : mm_E} (h : mf_21 v1 M = some q) (hA : mm_A (mm_Kr mm_wi) q o) : mm_Runs L xs d 21 (0, mm_ent (mm_ml 21) [.ref 0, .int v1], [], M) o := by
  unfold mf_21 at h
  obtain ⟨d, rfl⟩ := mm_d1 (n := 6) hd
  show mm_Runs L xs (d + 1) 21 (0, [some (.ref 0), some (.int v1)], [], M) o
  refine mm_Runs.seq (l := [(0, .iload_n 1, 1)]) (S2 := (1, [some (.ref 0), some (.int v1)], [.int v1], M)) (by decide +kernel) (hO := mm_own_21) rfl ?_
  by_cases hc0 : v1 = (0 : Int32)
  · replace h := mm_ip hc0 h
    refine mm_R_sw (t := 32) rfl rfl rfl (by rw [hc0]; rfl) ?_
    refine mm_Runs.seq (l := [(32, .aload_n 0, 1), (33, .getfield 12, 3), (36, .getfield 115, 3), (39, .iconst 0, 1), (40, .aload_n 0, 1), (41, .getfield 12, 3), (44, .getfield 90, 3)]) (S2 := (47, [some (.ref 0), some (.int v1)], [.int (M.1 1 1), .int (0 : Int32), .ref 2], M)) (by decide +kernel) (hO := mm_own_21) rfl ?_
    refine mm_R_call (v := mm_wi) h hA (k2 := 28) (as := [.ref 2, .int (0 : Int32), .int (M.1 1 1)]) (r := []) rfl (fun _ => rfl) (fun q hq o ho => ms_28 rfl (by omega) hq ho) (fun r1 M2 h => ?_)
    show mm_Runs L xs (d + 1) 21 (50, [some (.ref 0), some (.int v1)], [.int r1], M2) o
    cases h
    exact mm_R_reti rfl rfl hA
  replace h := mm_iq hc0 h
  by_cases hc1 : v1 = (1 : Int32)
  · replace h := mm_ip hc1 h
    refine mm_R_sw (t := 51) rfl rfl rfl (by rw [hc1]; rfl) ?_
    refine mm_Runs.seq (l := [(51, .aload_n 0, 1), (52, .getfield 12, 3), (55, .getfield 115, 3), (58, .iconst 0, 1), (59, .aload_n 0, 1), (60, .getfield 12, 3), (63, .getfield 90, 3)]) (S2 := (66, [some (.ref 0), some (.int v1)], [.int (M.1 1 1), .int (0 : Int32), .ref 2], M)) (by decide +kernel) (hO := mm_own_21) rfl ?_
    refine mm_R_call (v := mm_wi) h hA (k2 := 29) (as := [.ref 2, .int (0 : Int32), .int (M.1 1 1)]) (r := []) rfl (fun _ => rfl) (fun q hq o ho => ms_29 rfl (by omega) hq ho) (fun r3 M4 h => ?_)
    show mm_Runs L xs (d + 1) 21 (69, [some (.ref 0), some (.int v1)], [.int r3], M4) o
    cases h
    exact mm_R_reti rfl rfl hA
  replace h := mm_iq hc1 h
  by_cases hc2 : v1 = (2 : Int32)
  · replace h := mm_ip hc2 h
    refine mm_R_sw (t := 70) rfl rfl rfl (by rw [hc2]; rfl) ?_
    refine mm_Runs.seq (l := [(70, .aload_n 0, 1), (71, .getfield 12, 3), (74, .getfield 115, 3), (77, .iconst 0, 1), (78, .aload_n 0, 1), (79, .getfield 12, 3), (82, .getfield 90, 3)]) (S2 := (85, [some (.ref 0), some (.int v1)], [.int (M.1 1 1), .int (0 : Int32), .ref 2], M)) (by decide +kernel) (hO := mm_own_21) rfl ?_
    refine mm_R_call (v := mm_wi) h hA (k2 := 30) (as := [.ref 2, .int (0 : Int32), .int (M.1 1 1)]) (r := []) rfl (fun _ => rfl) (fun q hq o ho => ms_30 rfl (by omega) hq ho) (fun r5 M6 h => ?_)
    show mm_Runs L xs (d + 1) 21 (88, [some (.ref 0), some (.int v1)], [.int r5], M6) o
    cases h
    exact mm_R_reti rfl rfl hA
  replace h := mm_iq hc2 h
  by_cases hc3 : v1 = (3 : Int32)
  · replace h := mm_ip hc3 h
    refine mm_R_sw (t := 89) rfl rfl rfl (by rw [hc3]; rfl) ?_
    refine mm_Runs.seq (l := [(89, .aload_n 0, 1), (90, .getfield 12, 3), (93, .getfield 115, 3), (96, .iconst 0, 1), (97, .aload_n 0, 1), (98, .getfield 12, 3), (101, .getfield 90, 3)]) (S2 := (104, [some (.ref 0), some (.int v1)], [.int (M.1 1 1), .int (0 : Int32), .ref 2], M)) (by decide +kernel) (hO := mm_own_21) rfl ?_
    refine mm_R_call (v := mm_wi) h hA (k2 := 31) (as := [.ref 2, .int (0 : Int32), .int (M.1 1 1)]) (r := []) rfl (fun _ => rfl) (fun q hq o ho => ms_31 rfl (by omega) hq ho) (fun r7 M8 h => ?_)
    show mm_Runs L xs (d + 1) 21 (107, [some (.ref 0), some (.int v1)], [.int r7], M8) o
    cases h
    exact mm_R_reti rfl rfl hA
  replace h := mm_iq hc3 h
  have e0 := mm_i32 (n := 0) hc0 (by decide) (by decide)
  have e1 := mm_i32 (n := 1) hc1 (by decide) (by decide)
  have e2 := mm_i32 (n := 2) hc2 (by decide) (by decide)
  have e3 := mm_i32 (n := 3) hc3 (by decide) (by decide)
  refine mm_R_sw (t := 108) rfl rfl rfl (mm_tsd (by omega) rfl rfl) ?_
  cases h
  exact mm_R_thr rfl rfl rfl (by omega) hA
-- 8: PlainPacksLaw.sum(LPlainPacks;I[J)I (depth 8)
theorem mm_own_8 : mm_own 8 = 13 := rfl
noncomputable def mf_8 (v1 : Int32) (M : mm_M) : mm_O Int32 := mm_Bc (mf_21 v1 M) (fun r1 M2 => if mm_in (0 : Int32) 1 then some (.inl (0 : Int32), (mm_pl M2 110 (0 : Int32).toNatClampNeg r1.toInt64)) else none) 1 (fun M3 => some (.inl (1 : Int32), M3))
set_option maxRecDepth 8000 in
set_option maxHeartbeats 4000000 in
theorem ms_8 {L : Nat} {xs : Nat → Int32} {d : Nat} (hd : 8 ≤ d) {v1 : Int32} {M : mm_M} {q : (Int32 ⊕ Nat) × mm_M} {o : mm_E} (h : mf_8 v1 M = some q) (hA : mm_A (mm_Kr mm_wi) q o) : mm_Runs L xs d 8 (0, mm_ent (mm_ml 8) [.ref 0, .int v1, .ref 110], [], M) o := by
  unfold mf_8 at h
  obtain ⟨d, rfl⟩ := mm_d1 (n := 7) hd
  show mm_Runs L xs (d + 1) 8 (0, [some (.ref 0), some (.int v1), some (.ref 110), none], [], M) o
  refine mm_Runs.seq (l := [(0, .aload_n 2, 1), (1, .iconst 0, 1), (2, .aload_n 0, 1), (3, .iload_n 1, 1)]) (S2 := (4, [some (.ref 0), some (.int v1), some (.ref 110), none], [.int v1, .ref 0, .int (0 : Int32), .ref 110], M)) (by decide +kernel) (hO := mm_own_8) rfl ?_
  refine mm_R_callc (v := mm_wi) (X := 1) (hh := 13) (i := 3) h hA (k2 := 21) (as := [.ref 0, .int v1]) (r := [.int (0 : Int32), .ref 110]) rfl rfl rfl (fun q hq o ho => ms_21 (by omega) hq ho) (fun r1 M2 h => ?_) (fun M3 h => ?_)
  · show mm_Runs L xs (d + 1) 8 (7, [some (.ref 0), some (.int v1), some (.ref 110), none], [.int r1, .int (0 : Int32), .ref 110], M2) o
    refine mm_Runs.seq (l := [(7, .i2l, 1)]) (S2 := (8, [some (.ref 0), some (.int v1), some (.ref 110), none], [.long r1.toInt64, .int (0 : Int32), .ref 110], M2)) (by decide +kernel) (hO := mm_own_8) rfl ?_
    obtain ⟨hb, h⟩ := mm_gd h
    refine mm_R_last rfl rfl hb ?_
    refine mm_Runs.seq (l := [(9, .goto 6, 3), (15, .iconst 0, 1)]) (S2 := (16, [some (.ref 0), some (.int v1), some (.ref 110), none], [.int (0 : Int32)], (mm_pl M2 110 (0 : Int32).toNatClampNeg r1.toInt64))) (by decide +kernel) (hO := mm_own_8) rfl ?_
    cases h
    exact mm_R_reti rfl rfl hA
  · show mm_Runs L xs (d + 1) 8 (13, [some (.ref 0), some (.int v1), some (.ref 110), none], [], M3) o
    refine mm_Runs.seq (l := [(13, .iconst 1, 1)]) (S2 := (14, [some (.ref 0), some (.int v1), some (.ref 110), none], [.int (1 : Int32)], M3)) (by decide +kernel) (hO := mm_own_8) rfl ?_
    cases h
    exact mm_R_reti rfl rfl hA
-- 189: PlainPacksModel.sum(I)I (depth 3)
theorem mm_own_189 : mm_own 189 = 12 := rfl
def mp_189_14 (L : Nat) (xs : Nat → Int32) (d : Nat) (v1 : Int32) (M : mm_M) (o : mm_E) : Prop := mm_Runs L xs d 189 (14, [some (.ref 84), some (.int v1)], [.ref 84], M) o
def mp_189_15 (L : Nat) (xs : Nat → Int32) (d : Nat) (v1 : Int32) (s1 : Int32) (M : mm_M) (o : mm_E) : Prop := mm_Runs L xs d 189 (15, [some (.ref 84), some (.int v1)], [.int s1, .ref 84], M) o
noncomputable def mf_189_j15 (v1 : Int32) (s1 : Int32) (M : mm_M) : mm_O Int32 := mm_B (mf_174 s1 M) (fun r1 M2 => if r1 = 0 then (some (.inl (0 : Int32), M2)) else (if v1 = (0 : Int32) then (mm_B (mf_182 85 10000 (0 : Int32) (M2.1 84 2) M2) (fun r3 M4 => some (.inl r3, M4))) else if v1 = (1 : Int32) then (mm_B (mf_183 85 10000 (0 : Int32) (M2.1 84 2) M2) (fun r5 M6 => some (.inl r5, M6))) else if v1 = (2 : Int32) then (mm_B (mf_184 85 10000 (0 : Int32) (M2.1 84 2) M2) (fun r7 M8 => some (.inl r7, M8))) else (mm_B (mf_188 85 10000 (0 : Int32) (M2.1 84 2) M2) (fun r9 M10 => some (.inl r9, M10)))))
set_option maxRecDepth 8000 in
set_option maxHeartbeats 4000000 in
theorem ms_189_j15 {L : Nat} {xs : Nat → Int32} {d : Nat} (hd : 3 ≤ d) {v1 : Int32} {s1 : Int32} {M : mm_M} {q : (Int32 ⊕ Nat) × mm_M} {o : mm_E} (h : mf_189_j15 v1 s1 M = some q) (hA : mm_A (mm_Kr mm_wi) q o) : mp_189_15 L xs d v1 s1 M o := by
  unfold mf_189_j15 at h
  obtain ⟨d, rfl⟩ := mm_d1 (n := 2) hd
  show mm_Runs L xs (d + 1) 189 (15, [some (.ref 84), some (.int v1)], [.int s1, .ref 84], M) o
  refine mm_R_call (v := mm_wi) h hA (k2 := 174) (as := [.ref 84, .int s1]) (r := []) rfl (fun _ => rfl) (fun q hq o ho => ms_174 (by omega) hq ho) (fun r1 M2 h => ?_)
  show mm_Runs L xs (d + 1) 189 (18, [some (.ref 84), some (.int v1)], [.int r1], M2) o
  refine mm_R_zne (t := 23) rfl rfl rfl (fun hc => ?_) (fun hc => ?_)
  · replace h := mm_ip hc h
    refine mm_Runs.seq (l := [(21, .iconst 0, 1)]) (S2 := (22, [some (.ref 84), some (.int v1)], [.int (0 : Int32)], M2)) (by decide +kernel) (hO := mm_own_189) rfl ?_
    cases h
    exact mm_R_reti rfl rfl hA
  · replace h := mm_iq hc h
    refine mm_Runs.seq (l := [(23, .iload_n 1, 1)]) (S2 := (24, [some (.ref 84), some (.int v1)], [.int v1], M2)) (by decide +kernel) (hO := mm_own_189) rfl ?_
    by_cases hc0 : v1 = (0 : Int32)
    · replace h := mm_ip hc0 h
      refine mm_R_sw (t := 52) rfl rfl rfl (by rw [hc0]; rfl) ?_
      refine mm_Runs.seq (l := [(52, .aload_n 0, 1), (53, .getfield 7, 3), (56, .iconst 0, 1), (57, .aload_n 0, 1), (58, .getfield 91, 3)]) (S2 := (61, [some (.ref 84), some (.int v1)], [.int (M2.1 84 2), .int (0 : Int32), .ref 85], M2)) (by decide +kernel) (hO := mm_own_189) rfl ?_
      refine mm_R_call (v := mm_wi) h hA (k2 := 182) (as := [.ref 85, .int (0 : Int32), .int (M2.1 84 2)]) (r := []) rfl (fun _ => rfl) (fun q hq o ho => ms_182 rfl (by omega) hq ho) (fun r3 M4 h => ?_)
      show mm_Runs L xs (d + 1) 189 (64, [some (.ref 84), some (.int v1)], [.int r3], M4) o
      cases h
      exact mm_R_reti rfl rfl hA
    replace h := mm_iq hc0 h
    by_cases hc1 : v1 = (1 : Int32)
    · replace h := mm_ip hc1 h
      refine mm_R_sw (t := 65) rfl rfl rfl (by rw [hc1]; rfl) ?_
      refine mm_Runs.seq (l := [(65, .aload_n 0, 1), (66, .getfield 7, 3), (69, .iconst 0, 1), (70, .aload_n 0, 1), (71, .getfield 91, 3)]) (S2 := (74, [some (.ref 84), some (.int v1)], [.int (M2.1 84 2), .int (0 : Int32), .ref 85], M2)) (by decide +kernel) (hO := mm_own_189) rfl ?_
      refine mm_R_call (v := mm_wi) h hA (k2 := 183) (as := [.ref 85, .int (0 : Int32), .int (M2.1 84 2)]) (r := []) rfl (fun _ => rfl) (fun q hq o ho => ms_183 rfl (by omega) hq ho) (fun r5 M6 h => ?_)
      show mm_Runs L xs (d + 1) 189 (77, [some (.ref 84), some (.int v1)], [.int r5], M6) o
      cases h
      exact mm_R_reti rfl rfl hA
    replace h := mm_iq hc1 h
    by_cases hc2 : v1 = (2 : Int32)
    · replace h := mm_ip hc2 h
      refine mm_R_sw (t := 78) rfl rfl rfl (by rw [hc2]; rfl) ?_
      refine mm_Runs.seq (l := [(78, .aload_n 0, 1), (79, .getfield 7, 3), (82, .iconst 0, 1), (83, .aload_n 0, 1), (84, .getfield 91, 3)]) (S2 := (87, [some (.ref 84), some (.int v1)], [.int (M2.1 84 2), .int (0 : Int32), .ref 85], M2)) (by decide +kernel) (hO := mm_own_189) rfl ?_
      refine mm_R_call (v := mm_wi) h hA (k2 := 184) (as := [.ref 85, .int (0 : Int32), .int (M2.1 84 2)]) (r := []) rfl (fun _ => rfl) (fun q hq o ho => ms_184 rfl (by omega) hq ho) (fun r7 M8 h => ?_)
      show mm_Runs L xs (d + 1) 189 (90, [some (.ref 84), some (.int v1)], [.int r7], M8) o
      cases h
      exact mm_R_reti rfl rfl hA
    replace h := mm_iq hc2 h
    have e0 := mm_i32 (n := 0) hc0 (by decide) (by decide)
    have e1 := mm_i32 (n := 1) hc1 (by decide) (by decide)
    have e2 := mm_i32 (n := 2) hc2 (by decide) (by decide)
    refine mm_R_sw (t := 91) rfl rfl rfl (mm_tsd (by omega) rfl rfl) ?_
    refine mm_Runs.seq (l := [(91, .aload_n 0, 1), (92, .getfield 7, 3), (95, .iconst 0, 1), (96, .aload_n 0, 1), (97, .getfield 91, 3)]) (S2 := (100, [some (.ref 84), some (.int v1)], [.int (M2.1 84 2), .int (0 : Int32), .ref 85], M2)) (by decide +kernel) (hO := mm_own_189) rfl ?_
    refine mm_R_call (v := mm_wi) h hA (k2 := 188) (as := [.ref 85, .int (0 : Int32), .int (M2.1 84 2)]) (r := []) rfl (fun _ => rfl) (fun q hq o ho => ms_188 rfl (by omega) hq ho) (fun r9 M10 h => ?_)
    show mm_Runs L xs (d + 1) 189 (103, [some (.ref 84), some (.int v1)], [.int r9], M10) o
    cases h
    exact mm_R_reti rfl rfl hA
noncomputable def mf_189_j14 (v1 : Int32) (M : mm_M) : mm_O Int32 := mf_189_j15 v1 (0 : Int32) M
set_option maxRecDepth 8000 in
set_option maxHeartbeats 4000000 in
theorem ms_189_j14 {L : Nat} {xs : Nat → Int32} {d : Nat} (hd : 3 ≤ d) {v1 : Int32} {M : mm_M} {q : (Int32 ⊕ Nat) × mm_M} {o : mm_E} (h : mf_189_j14 v1 M = some q) (hA : mm_A (mm_Kr mm_wi) q o) : mp_189_14 L xs d v1 M o := by
  unfold mf_189_j14 at h
  obtain ⟨d, rfl⟩ := mm_d1 (n := 2) hd
  show mm_Runs L xs (d + 1) 189 (14, [some (.ref 84), some (.int v1)], [.ref 84], M) o
  refine mm_Runs.seq (l := [(14, .iconst 0, 1)]) (S2 := (15, [some (.ref 84), some (.int v1)], [.int (0 : Int32), .ref 84], M)) (by decide +kernel) (hO := mm_own_189) rfl ?_
  exact (ms_189_j15 hd h hA : mp_189_15 L xs (d + 1) v1 (0 : Int32) M o)
noncomputable def mf_189 (v1 : Int32) (M : mm_M) : mm_O Int32 := if v1 < 0 then (mf_189_j14 v1 M) else (if (3 : Int32) < v1 then (mf_189_j14 v1 M) else (mf_189_j15 v1 (1 : Int32) M))
set_option maxRecDepth 8000 in
set_option maxHeartbeats 4000000 in
theorem ms_189 {L : Nat} {xs : Nat → Int32} {d : Nat} (hd : 3 ≤ d) {v1 : Int32} {M : mm_M} {q : (Int32 ⊕ Nat) × mm_M} {o : mm_E} (h : mf_189 v1 M = some q) (hA : mm_A (mm_Kr mm_wi) q o) : mm_Runs L xs d 189 (0, mm_ent (mm_ml 189) [.ref 84, .int v1], [], M) o := by
  unfold mf_189 at h
  obtain ⟨d, rfl⟩ := mm_d1 (n := 2) hd
  show mm_Runs L xs (d + 1) 189 (0, [some (.ref 84), some (.int v1)], [], M) o
  refine mm_Runs.seq (l := [(0, .aload_n 0, 1), (1, .iload_n 1, 1)]) (S2 := (2, [some (.ref 84), some (.int v1)], [.int v1, .ref 84], M)) (by decide +kernel) (hO := mm_own_189) rfl ?_
  refine mm_R_zlt (t := 14) rfl rfl rfl (fun hc => ?_) (fun hc => ?_)
  · replace h := mm_ip hc h
    exact (ms_189_j14 hd h hA : mp_189_14 L xs (d + 1) v1 M o)
  · replace h := mm_iq hc h
    refine mm_Runs.seq (l := [(5, .iload_n 1, 1), (6, .iconst 3, 1)]) (S2 := (7, [some (.ref 84), some (.int v1)], [.int (3 : Int32), .int v1, .ref 84], M)) (by decide +kernel) (hO := mm_own_189) rfl ?_
    refine mm_R_igt (t := 14) rfl rfl rfl (fun hc => ?_) (fun hc => ?_)
    · replace h := mm_ip hc h
      exact (ms_189_j14 hd h hA : mp_189_14 L xs (d + 1) v1 M o)
    · replace h := mm_iq hc h
      refine mm_Runs.seq (l := [(10, .iconst 1, 1), (11, .goto 4, 3)]) (S2 := (15, [some (.ref 84), some (.int v1)], [.int (1 : Int32), .ref 84], M)) (by decide +kernel) (hO := mm_own_189) rfl ?_
      exact (ms_189_j15 hd h hA : mp_189_15 L xs (d + 1) v1 (1 : Int32) M o)
-- 98: PlainPacks$Blocks.copyBits(II)I (depth 3)
theorem mm_own_98 : mm_own 98 = 6 := rfl
noncomputable def mf_98 (v0 : Int32) (v1 : Int32) (M : mm_M) : mm_O Int32 := mm_B (mf_94 v0 M) (fun r1 M2 => mm_B (mf_82 r1 M2) (fun r3 M4 => mm_B (mf_95 v0 M4) (fun r5 M6 => mm_B (mf_96 v1 M6) (fun r7 M8 => some (.inl (((r3 + r5) + (5 : Int32)) + r7), M8)))))
set_option maxRecDepth 8000 in
set_option maxHeartbeats 4000000 in
theorem ms_98 {L : Nat} {xs : Nat → Int32} {d : Nat} (hd : 3 ≤ d) {v0 : Int32} {v1 : Int32} {M : mm_M} {q : (Int32 ⊕ Nat) × mm_M} {o : mm_E} (h : mf_98 v0 v1 M = some q) (hA : mm_A (mm_Kr mm_wi) q o) : mm_Runs L xs d 98 (0, mm_ent (mm_ml 98) [.int v0, .int v1], [], M) o := by
  unfold mf_98 at h
  obtain ⟨d, rfl⟩ := mm_d1 (n := 2) hd
  show mm_Runs L xs (d + 1) 98 (0, [some (.int v0), some (.int v1)], [], M) o
  refine mm_Runs.seq (l := [(0, .iload_n 0, 1)]) (S2 := (1, [some (.int v0), some (.int v1)], [.int v0], M)) (by decide +kernel) (hO := mm_own_98) rfl ?_
  refine mm_R_call (v := mm_wi) h hA (k2 := 94) (as := [.int v0]) (r := []) rfl (fun _ => rfl) (fun q hq o ho => ms_94 (by omega) hq ho) (fun r1 M2 h => ?_)
  show mm_Runs L xs (d + 1) 98 (4, [some (.int v0), some (.int v1)], [.int r1], M2) o
  refine mm_R_call (v := mm_wi) h hA (k2 := 82) (as := [.int r1]) (r := []) rfl (fun _ => rfl) (fun q hq o ho => ms_82 (by omega) hq ho) (fun r3 M4 h => ?_)
  show mm_Runs L xs (d + 1) 98 (7, [some (.int v0), some (.int v1)], [.int r3], M4) o
  refine mm_Runs.seq (l := [(7, .iload_n 0, 1)]) (S2 := (8, [some (.int v0), some (.int v1)], [.int v0, .int r3], M4)) (by decide +kernel) (hO := mm_own_98) rfl ?_
  refine mm_R_call (v := mm_wi) h hA (k2 := 95) (as := [.int v0]) (r := [.int r3]) rfl (fun _ => rfl) (fun q hq o ho => ms_95 (by omega) hq ho) (fun r5 M6 h => ?_)
  show mm_Runs L xs (d + 1) 98 (11, [some (.int v0), some (.int v1)], [.int r5, .int r3], M6) o
  refine mm_Runs.seq (l := [(11, .iadd, 1), (12, .iconst 5, 1), (13, .iadd, 1), (14, .iload_n 1, 1)]) (S2 := (15, [some (.int v0), some (.int v1)], [.int v1, .int ((r3 + r5) + (5 : Int32))], M6)) (by decide +kernel) (hO := mm_own_98) rfl ?_
  refine mm_R_call (v := mm_wi) h hA (k2 := 96) (as := [.int v1]) (r := [.int ((r3 + r5) + (5 : Int32))]) rfl (fun _ => rfl) (fun q hq o ho => ms_96 (by omega) hq ho) (fun r7 M8 h => ?_)
  show mm_Runs L xs (d + 1) 98 (18, [some (.int v0), some (.int v1)], [.int r7, .int ((r3 + r5) + (5 : Int32))], M8) o
  refine mm_Runs.seq (l := [(18, .iadd, 1)]) (S2 := (19, [some (.int v0), some (.int v1)], [.int (((r3 + r5) + (5 : Int32)) + r7)], M8)) (by decide +kernel) (hO := mm_own_98) rfl ?_
  cases h
  exact mm_R_reti rfl rfl hA
-- 97: PlainPacks$Blocks.leastBits()I (depth 4)
theorem mm_own_97 : mm_own 97 = 6 := rfl
def mp_97_38 (L : Nat) (xs : Nat → Int32) (d : Nat) (v2 : Int32) (M : mm_M) (o : mm_E) : Prop := ∀ z1 z3 z4 z5 z6 z7 : Option Value, mm_Runs L xs d 97 (38, [some (.ref 16), z1, some (.int v2), z3, z4, z5, z6, z7], [], M) o
def mp_97_220 (L : Nat) (xs : Nat → Int32) (d : Nat) (M : mm_M) (o : mm_E) : Prop := ∀ z1 z2 z3 z4 z5 z6 z7 : Option Value, mm_Runs L xs d 97 (220, [some (.ref 16), z1, z2, z3, z4, z5, z6, z7], [], M) o
def mp_97_74 (L : Nat) (xs : Nat → Int32) (d : Nat) (v2 : Int32) (v3 : Int32) (v4 : Int32) (M : mm_M) (o : mm_E) : Prop := ∀ z1 z5 z6 z7 : Option Value, mm_Runs L xs d 97 (74, [some (.ref 16), z1, some (.int v2), some (.int v3), some (.int v4), z5, z6, z7], [], M) o
def mp_97_214 (L : Nat) (xs : Nat → Int32) (d : Nat) (v2 : Int32) (M : mm_M) (o : mm_E) : Prop := ∀ z1 z3 z4 z5 z6 z7 : Option Value, mm_Runs L xs d 97 (214, [some (.ref 16), z1, some (.int v2), z3, z4, z5, z6, z7], [], M) o
def mp_97_109 (L : Nat) (xs : Nat → Int32) (d : Nat) (v2 : Int32) (v3 : Int32) (v4 : Int32) (s0 : Int32) (M : mm_M) (o : mm_E) : Prop := ∀ z1 z5 z6 z7 : Option Value, mm_Runs L xs d 97 (109, [some (.ref 16), z1, some (.int v2), some (.int v3), some (.int v4), z5, z6, z7], [.int s0], M) o
def mp_97_135 (L : Nat) (xs : Nat → Int32) (d : Nat) (v2 : Int32) (v3 : Int32) (v4 : Int32) (s1 : Int32) (s2 : Int32) (M : mm_M) (o : mm_E) : Prop := ∀ z1 z5 z6 z7 : Option Value, mm_Runs L xs d 97 (135, [some (.ref 16), z1, some (.int v2), some (.int v3), some (.int v4), z5, z6, z7], [.int s2, .int s1, .ref 34], M) o
def mp_97_156 (L : Nat) (xs : Nat → Int32) (d : Nat) (v2 : Int32) (v3 : Int32) (v4 : Int32) (v6 : Int32) (v7 : Int32) (M : mm_M) (o : mm_E) : Prop := ∀ z1 z5 : Option Value, mm_Runs L xs d 97 (156, [some (.ref 16), z1, some (.int v2), some (.int v3), some (.int v4), z5, some (.int v6), some (.int v7)], [], M) o
def mp_97_201 (L : Nat) (xs : Nat → Int32) (d : Nat) (v2 : Int32) (v3 : Int32) (v4 : Int32) (v6 : Int32) (M : mm_M) (o : mm_E) : Prop := ∀ z1 z5 z7 : Option Value, mm_Runs L xs d 97 (201, [some (.ref 16), z1, some (.int v2), some (.int v3), some (.int v4), z5, some (.int v6), z7], [], M) o
noncomputable def mf_97_b156 (v2 : Int32) (v3 : Int32) (v4 : Int32) (v6 : Int32) (v7 : Int32) (M : mm_M) : mm_O ((Int32) ⊕ (Unit)) := if v6 < v7 then (some (.inl (.inr ()), M)) else (if mm_in v2 301 then mm_B (mf_98 v7 v4 M) (fun r1 M2 => if mm_in (v2 + v7) 301 then if mm_in v2 301 then some (.inl (.inl (v7 + (1 : Int32))), (mm_pi M2 33 v2.toNatClampNeg (mm_min (M.1 33 v2.toNatClampNeg) (r1 + (M2.1 33 (v2 + v7).toNatClampNeg))))) else none else none) else none)
noncomputable def mf_97_L156 (v2 : Int32) (v3 : Int32) (v4 : Int32) (v6 : Int32) (s : Int32) (M : mm_M) : mm_O (Unit) := mm_L (fun s M => mf_97_b156 v2 v3 v4 v6 s M) s M
set_option maxRecDepth 8000 in
set_option maxHeartbeats 4000000 in
theorem ms_97_b156 {L : Nat} {xs : Nat → Int32} {d : Nat} (hd : 4 ≤ d) {v2 : Int32} {v3 : Int32} {v4 : Int32} {v6 : Int32} {v7 : Int32} {M : mm_M} {q : (((Int32) ⊕ (Unit)) ⊕ Nat) × mm_M} {o : mm_E} (h : mf_97_b156 v2 v3 v4 v6 v7 M = some q) (hA : mm_A (mm_K2 (fun s M o => mp_97_156 L xs (d) v2 v3 v4 v6 s M o) (fun r M o => mp_97_201 L xs (d) v2 v3 v4 v6 M o)) q o) : mp_97_156 L xs d v2 v3 v4 v6 v7 M o := by
  unfold mf_97_b156 at h
  obtain ⟨d, rfl⟩ := mm_d1 (n := 3) hd
  intro z1 z5
  show mm_Runs L xs (d + 1) 97 (156, [some (.ref 16), z1, some (.int v2), some (.int v3), some (.int v4), z5, some (.int v6), some (.int v7)], [], M) o
  refine mm_Runs.seq (l := [(156, .iload 7, 2), (158, .iload 6, 2)]) (S2 := (160, [some (.ref 16), z1, some (.int v2), some (.int v3), some (.int v4), z5, some (.int v6), some (.int v7)], [.int v6, .int v7], M)) (by decide +kernel) (hO := mm_own_97) rfl ?_
  refine mm_R_igt (t := 201) rfl rfl rfl (fun hc => ?_) (fun hc => ?_)
  · replace h := mm_ip hc h
    cases h
    exact (show mp_97_201 L xs (d + 1) v2 v3 v4 v6 M o from hA) z1 z5 (some (.int v7))
  · replace h := mm_iq hc h
    refine mm_Runs.seq (l := [(163, .aload_n 0, 1), (164, .getfield 33, 3), (167, .iload_n 2, 1), (168, .aload_n 0, 1), (169, .getfield 33, 3), (172, .iload_n 2, 1)]) (S2 := (173, [some (.ref 16), z1, some (.int v2), some (.int v3), some (.int v4), z5, some (.int v6), some (.int v7)], [.int v2, .ref 33, .int v2, .ref 33], M)) (by decide +kernel) (hO := mm_own_97) rfl ?_
    obtain ⟨hb, h⟩ := mm_gd h
    refine mm_R_iald rfl rfl hb ?_
    refine mm_Runs.seq (l := [(174, .iload 7, 2), (176, .iload 4, 2)]) (S2 := (178, [some (.ref 16), z1, some (.int v2), some (.int v3), some (.int v4), z5, some (.int v6), some (.int v7)], [.int v4, .int v7, .int (M.1 33 v2.toNatClampNeg), .int v2, .ref 33], M)) (by decide +kernel) (hO := mm_own_97) rfl ?_
    refine mm_R_call (v := mm_wi) h hA (k2 := 98) (as := [.int v7, .int v4]) (r := [.int (M.1 33 v2.toNatClampNeg), .int v2, .ref 33]) rfl (fun _ => rfl) (fun q hq o ho => ms_98 (by omega) hq ho) (fun r1 M2 h => ?_)
    show mm_Runs L xs (d + 1) 97 (181, [some (.ref 16), z1, some (.int v2), some (.int v3), some (.int v4), z5, some (.int v6), some (.int v7)], [.int r1, .int (M.1 33 v2.toNatClampNeg), .int v2, .ref 33], M2) o
    refine mm_Runs.seq (l := [(181, .aload_n 0, 1), (182, .getfield 33, 3), (185, .iload_n 2, 1), (186, .iload 7, 2), (188, .iadd, 1)]) (S2 := (189, [some (.ref 16), z1, some (.int v2), some (.int v3), some (.int v4), z5, some (.int v6), some (.int v7)], [.int (v2 + v7), .ref 33, .int r1, .int (M.1 33 v2.toNatClampNeg), .int v2, .ref 33], M2)) (by decide +kernel) (hO := mm_own_97) rfl ?_
    obtain ⟨hb, h⟩ := mm_gd h
    refine mm_R_iald rfl rfl hb ?_
    refine mm_Runs.seq (l := [(190, .iadd, 1)]) (S2 := (191, [some (.ref 16), z1, some (.int v2), some (.int v3), some (.int v4), z5, some (.int v6), some (.int v7)], [.int (r1 + (M2.1 33 (v2 + v7).toNatClampNeg)), .int (M.1 33 v2.toNatClampNeg), .int v2, .ref 33], M2)) (by decide +kernel) (hO := mm_own_97) rfl ?_
    refine mm_R_intr (st2 := [.int (mm_min (M.1 33 v2.toNatClampNeg) (r1 + (M2.1 33 (v2 + v7).toNatClampNeg))), .int v2, .ref 33]) (M2 := M2) rfl rfl (by omega) ?_
    obtain ⟨hb, h⟩ := mm_gd h
    refine mm_R_iast rfl rfl hb ?_
    refine mm_Runs.seq (l := [(195, .iinc 7 1, 3), (198, .goto (-42), 3)]) (S2 := (156, [some (.ref 16), z1, some (.int v2), some (.int v3), some (.int v4), z5, some (.int v6), some (.int (v7 + (1 : Int32)))], [], (mm_pi M2 33 v2.toNatClampNeg (mm_min (M.1 33 v2.toNatClampNeg) (r1 + (M2.1 33 (v2 + v7).toNatClampNeg)))))) (by decide +kernel) (hO := mm_own_97) rfl ?_
    cases h
    exact (show mp_97_156 L xs (d + 1) v2 v3 v4 v6 (v7 + (1 : Int32)) (mm_pi M2 33 v2.toNatClampNeg (mm_min (M.1 33 v2.toNatClampNeg) (r1 + (M2.1 33 (v2 + v7).toNatClampNeg)))) o from hA) z1 z5
theorem ms_97_L156 {L : Nat} {xs : Nat → Int32} {d : Nat} (hd : 4 ≤ d) {v2 : Int32} {v3 : Int32} {v4 : Int32} {v6 : Int32} {v7 : Int32} {β : Type} {K : β → mm_M → mm_E → Prop} {F : (Unit) → mm_M → mm_O β} {M : mm_M} {q : (β ⊕ Nat) × mm_M} {o : mm_E} (h : mm_B (mf_97_L156 v2 v3 v4 v6 v7 M) F = some q) (hA : mm_A K q o) (hx : ∀ (r : (Unit)) (M2 : mm_M), F r M2 = some q → (fun r M o => mp_97_201 L xs (d) v2 v3 v4 v6 M o) r M2 o) : mp_97_156 L xs d v2 v3 v4 v6 v7 M o := mm_R_loop (s := v7) (M := M) (P := (fun s M o => mp_97_156 L xs (d) v2 v3 v4 v6 s M o)) (X := (fun r M o => mp_97_201 L xs (d) v2 v3 v4 v6 M o)) h hA (fun s M q hq hA => ms_97_b156 hd hq hA) hx
noncomputable def mf_97_j201 (v2 : Int32) (v3 : Int32) (v4 : Int32) (v6 : Int32) (M : mm_M) : mm_O ((Int32 × Int32) ⊕ (Unit)) := some (.inl (.inl ((mm_max v3 v6), (v4 + (1 : Int32)))), M)
set_option maxRecDepth 8000 in
set_option maxHeartbeats 4000000 in
theorem ms_97_j201 {L : Nat} {xs : Nat → Int32} {d : Nat} (hd : 4 ≤ d) {v2 : Int32} {v3 : Int32} {v4 : Int32} {v6 : Int32} {M : mm_M} {q : (((Int32 × Int32) ⊕ (Unit)) ⊕ Nat) × mm_M} {o : mm_E} (h : mf_97_j201 v2 v3 v4 v6 M = some q) (hA : mm_A (mm_K2 (fun s M o => mp_97_74 L xs (d) v2 s.1 s.2 M o) (fun r M o => mp_97_214 L xs (d) v2 M o)) q o) : mp_97_201 L xs d v2 v3 v4 v6 M o := by
  unfold mf_97_j201 at h
  obtain ⟨d, rfl⟩ := mm_d1 (n := 3) hd
  intro z1 z5 z7
  show mm_Runs L xs (d + 1) 97 (201, [some (.ref 16), z1, some (.int v2), some (.int v3), some (.int v4), z5, some (.int v6), z7], [], M) o
  refine mm_Runs.seq (l := [(201, .iload_n 3, 1), (202, .iload 6, 2)]) (S2 := (204, [some (.ref 16), z1, some (.int v2), some (.int v3), some (.int v4), z5, some (.int v6), z7], [.int v6, .int v3], M)) (by decide +kernel) (hO := mm_own_97) rfl ?_
  refine mm_R_intr (st2 := [.int (mm_max v3 v6)]) (M2 := M) rfl rfl (by omega) ?_
  refine mm_Runs.seq (l := [(207, .istore_n 3, 1), (208, .iinc 4 1, 3), (211, .goto (-137), 3)]) (S2 := (74, [some (.ref 16), z1, some (.int v2), some (.int (mm_max v3 v6)), some (.int (v4 + (1 : Int32))), z5, some (.int v6), z7], [], M)) (by decide +kernel) (hO := mm_own_97) rfl ?_
  cases h
  exact (show mp_97_74 L xs (d + 1) v2 (mm_max v3 v6) (v4 + (1 : Int32)) M o from hA) z1 z5 (some (.int v6)) z7
noncomputable def mf_97_j135 (v2 : Int32) (v3 : Int32) (v4 : Int32) (s1 : Int32) (s2 : Int32) (M : mm_M) : mm_O ((Int32 × Int32) ⊕ (Unit)) := if mm_in s1 301 then if mm_in v4 301 then mm_B (mf_97_L156 v2 v3 v4 (mm_min ((mm_pi M 34 s1.toNatClampNeg s2).1 34 v4.toNatClampNeg) (258 : Int32)) (v3 + (1 : Int32)) (mm_pi M 34 s1.toNatClampNeg s2)) (fun r2 M1 => mf_97_j201 v2 v3 v4 (mm_min ((mm_pi M 34 s1.toNatClampNeg s2).1 34 v4.toNatClampNeg) (258 : Int32)) M1) else none else none
set_option maxRecDepth 8000 in
set_option maxHeartbeats 4000000 in
theorem ms_97_j135 {L : Nat} {xs : Nat → Int32} {d : Nat} (hd : 4 ≤ d) {v2 : Int32} {v3 : Int32} {v4 : Int32} {s1 : Int32} {s2 : Int32} {M : mm_M} {q : (((Int32 × Int32) ⊕ (Unit)) ⊕ Nat) × mm_M} {o : mm_E} (h : mf_97_j135 v2 v3 v4 s1 s2 M = some q) (hA : mm_A (mm_K2 (fun s M o => mp_97_74 L xs (d) v2 s.1 s.2 M o) (fun r M o => mp_97_214 L xs (d) v2 M o)) q o) : mp_97_135 L xs d v2 v3 v4 s1 s2 M o := by
  unfold mf_97_j135 at h
  obtain ⟨d, rfl⟩ := mm_d1 (n := 3) hd
  intro z1 z5 z6 z7
  show mm_Runs L xs (d + 1) 97 (135, [some (.ref 16), z1, some (.int v2), some (.int v3), some (.int v4), z5, z6, z7], [.int s2, .int s1, .ref 34], M) o
  obtain ⟨hb, h⟩ := mm_gd h
  refine mm_R_iast rfl rfl hb ?_
  refine mm_Runs.seq (l := [(136, .aload_n 0, 1), (137, .getfield 36, 3), (140, .iload 4, 2)]) (S2 := (142, [some (.ref 16), z1, some (.int v2), some (.int v3), some (.int v4), z5, z6, z7], [.int v4, .ref 34], (mm_pi M 34 s1.toNatClampNeg s2))) (by decide +kernel) (hO := mm_own_97) rfl ?_
  obtain ⟨hb, h⟩ := mm_gd h
  refine mm_R_iald rfl rfl hb ?_
  refine mm_Runs.seq (l := [(143, .sipush 258, 3)]) (S2 := (146, [some (.ref 16), z1, some (.int v2), some (.int v3), some (.int v4), z5, z6, z7], [.int (258 : Int32), .int ((mm_pi M 34 s1.toNatClampNeg s2).1 34 v4.toNatClampNeg)], (mm_pi M 34 s1.toNatClampNeg s2))) (by decide +kernel) (hO := mm_own_97) rfl ?_
  refine mm_R_intr (st2 := [.int (mm_min ((mm_pi M 34 s1.toNatClampNeg s2).1 34 v4.toNatClampNeg) (258 : Int32))]) (M2 := (mm_pi M 34 s1.toNatClampNeg s2)) rfl rfl (by omega) ?_
  refine mm_Runs.seq (l := [(149, .istore 6, 2), (151, .iload_n 3, 1), (152, .iconst 1, 1), (153, .iadd, 1), (154, .istore 7, 2)]) (S2 := (156, [some (.ref 16), z1, some (.int v2), some (.int v3), some (.int v4), (mm_no2 z5), some (.int (mm_min ((mm_pi M 34 s1.toNatClampNeg s2).1 34 v4.toNatClampNeg) (258 : Int32))), some (.int (v3 + (1 : Int32)))], [], (mm_pi M 34 s1.toNatClampNeg s2))) (by decide +kernel) (hO := mm_own_97) rfl ?_
  have hp : mp_97_156 L xs (d + 1) v2 v3 v4 (mm_min ((mm_pi M 34 s1.toNatClampNeg s2).1 34 v4.toNatClampNeg) (258 : Int32)) (v3 + (1 : Int32)) (mm_pi M 34 s1.toNatClampNeg s2) o := by
    refine ms_97_L156 hd h hA (fun r2 M1 h => ?_)
    intro y3 y4 y5
    show mm_Runs L xs (d + 1) 97 (201, [some (.ref 16), y3, some (.int v2), some (.int v3), some (.int v4), y4, some (.int (mm_min ((mm_pi M 34 s1.toNatClampNeg s2).1 34 v4.toNatClampNeg) (258 : Int32))), y5], [], M1) o
    exact (ms_97_j201 hd h hA : mp_97_201 L xs (d + 1) v2 v3 v4 (mm_min ((mm_pi M 34 s1.toNatClampNeg s2).1 34 v4.toNatClampNeg) (258 : Int32)) M1 o) y3 y4 y5
  exact hp z1 ((mm_no2 z5))
noncomputable def mf_97_j109 (v2 : Int32) (v3 : Int32) (v4 : Int32) (s0 : Int32) (M : mm_M) : mm_O ((Int32 × Int32) ⊕ (Unit)) := if s0 = 0 then (mf_97_j135 v2 v3 v4 v4 (0 : Int32) M) else (if mm_in v4 301 then mf_97_j135 v2 v3 v4 v4 ((M.1 34 v4.toNatClampNeg) + (1 : Int32)) M else none)
set_option maxRecDepth 8000 in
set_option maxHeartbeats 4000000 in
theorem ms_97_j109 {L : Nat} {xs : Nat → Int32} {d : Nat} (hd : 4 ≤ d) {v2 : Int32} {v3 : Int32} {v4 : Int32} {s0 : Int32} {M : mm_M} {q : (((Int32 × Int32) ⊕ (Unit)) ⊕ Nat) × mm_M} {o : mm_E} (h : mf_97_j109 v2 v3 v4 s0 M = some q) (hA : mm_A (mm_K2 (fun s M o => mp_97_74 L xs (d) v2 s.1 s.2 M o) (fun r M o => mp_97_214 L xs (d) v2 M o)) q o) : mp_97_109 L xs d v2 v3 v4 s0 M o := by
  unfold mf_97_j109 at h
  obtain ⟨d, rfl⟩ := mm_d1 (n := 3) hd
  intro z1 z5 z6 z7
  show mm_Runs L xs (d + 1) 97 (109, [some (.ref 16), z1, some (.int v2), some (.int v3), some (.int v4), z5, z6, z7], [.int s0], M) o
  refine mm_Runs.seq (l := [(109, .istore 5, 2), (111, .aload_n 0, 1), (112, .getfield 36, 3), (115, .iload 4, 2), (117, .iload 5, 2)]) (S2 := (119, [some (.ref 16), z1, some (.int v2), some (.int v3), some (.int v4), some (.int s0), z6, z7], [.int s0, .int v4, .ref 34], M)) (by decide +kernel) (hO := mm_own_97) rfl ?_
  refine mm_R_zeq (t := 134) rfl rfl rfl (fun hc => ?_) (fun hc => ?_)
  · replace h := mm_ip hc h
    refine mm_Runs.seq (l := [(134, .iconst 0, 1)]) (S2 := (135, [some (.ref 16), z1, some (.int v2), some (.int v3), some (.int v4), some (.int s0), z6, z7], [.int (0 : Int32), .int v4, .ref 34], M)) (by decide +kernel) (hO := mm_own_97) rfl ?_
    exact (ms_97_j135 hd h hA : mp_97_135 L xs (d + 1) v2 v3 v4 v4 (0 : Int32) M o) z1 (some (.int s0)) z6 z7
  · replace h := mm_iq hc h
    refine mm_Runs.seq (l := [(122, .aload_n 0, 1), (123, .getfield 36, 3), (126, .iload 4, 2)]) (S2 := (128, [some (.ref 16), z1, some (.int v2), some (.int v3), some (.int v4), some (.int s0), z6, z7], [.int v4, .ref 34, .int v4, .ref 34], M)) (by decide +kernel) (hO := mm_own_97) rfl ?_
    obtain ⟨hb, h⟩ := mm_gd h
    refine mm_R_iald rfl rfl hb ?_
    refine mm_Runs.seq (l := [(129, .iconst 1, 1), (130, .iadd, 1), (131, .goto 4, 3)]) (S2 := (135, [some (.ref 16), z1, some (.int v2), some (.int v3), some (.int v4), some (.int s0), z6, z7], [.int ((M.1 34 v4.toNatClampNeg) + (1 : Int32)), .int v4, .ref 34], M)) (by decide +kernel) (hO := mm_own_97) rfl ?_
    exact (ms_97_j135 hd h hA : mp_97_135 L xs (d + 1) v2 v3 v4 v4 ((M.1 34 v4.toNatClampNeg) + (1 : Int32)) M o) z1 (some (.int s0)) z6 z7
noncomputable def mf_97_b74 (v2 : Int32) (v3 : Int32) (v4 : Int32) (M : mm_M) : mm_O ((Int32 × Int32) ⊕ (Unit)) := if v2 < v4 then (some (.inl (.inr ()), M)) else (if mm_in v2 10000 then if mm_in (v2 - v4) 10000 then if (M.1 2 v2.toNatClampNeg) = (M.1 2 (v2 - v4).toNatClampNeg) then (mf_97_j109 v2 v3 v4 (1 : Int32) M) else (mf_97_j109 v2 v3 v4 (0 : Int32) M) else none else none)
noncomputable def mf_97_L74 (v2 : Int32) (s : Int32 × Int32) (M : mm_M) : mm_O (Unit) := mm_L (fun s M => mf_97_b74 v2 s.1 s.2 M) s M
set_option maxRecDepth 8000 in
set_option maxHeartbeats 4000000 in
theorem ms_97_b74 {L : Nat} {xs : Nat → Int32} {d : Nat} (hd : 4 ≤ d) {v2 : Int32} {v3 : Int32} {v4 : Int32} {M : mm_M} {q : (((Int32 × Int32) ⊕ (Unit)) ⊕ Nat) × mm_M} {o : mm_E} (h : mf_97_b74 v2 v3 v4 M = some q) (hA : mm_A (mm_K2 (fun s M o => mp_97_74 L xs (d) v2 s.1 s.2 M o) (fun r M o => mp_97_214 L xs (d) v2 M o)) q o) : mp_97_74 L xs d v2 v3 v4 M o := by
  unfold mf_97_b74 at h
  obtain ⟨d, rfl⟩ := mm_d1 (n := 3) hd
  intro z1 z5 z6 z7
  show mm_Runs L xs (d + 1) 97 (74, [some (.ref 16), z1, some (.int v2), some (.int v3), some (.int v4), z5, z6, z7], [], M) o
  refine mm_Runs.seq (l := [(74, .iload 4, 2), (76, .iload_n 2, 1)]) (S2 := (77, [some (.ref 16), z1, some (.int v2), some (.int v3), some (.int v4), z5, z6, z7], [.int v2, .int v4], M)) (by decide +kernel) (hO := mm_own_97) rfl ?_
  refine mm_R_igt (t := 214) rfl rfl rfl (fun hc => ?_) (fun hc => ?_)
  · replace h := mm_ip hc h
    cases h
    exact (show mp_97_214 L xs (d + 1) v2 M o from hA) z1 (some (.int v3)) (some (.int v4)) z5 z6 z7
  · replace h := mm_iq hc h
    refine mm_Runs.seq (l := [(80, .aload_n 0, 1), (81, .getfield 39, 3), (84, .getfield 94, 3), (87, .iload_n 2, 1)]) (S2 := (88, [some (.ref 16), z1, some (.int v2), some (.int v3), some (.int v4), z5, z6, z7], [.int v2, .ref 2], M)) (by decide +kernel) (hO := mm_own_97) rfl ?_
    obtain ⟨hb, h⟩ := mm_gd h
    refine mm_R_iald rfl rfl hb ?_
    refine mm_Runs.seq (l := [(89, .aload_n 0, 1), (90, .getfield 39, 3), (93, .getfield 94, 3), (96, .iload_n 2, 1), (97, .iload 4, 2), (99, .isub, 1)]) (S2 := (100, [some (.ref 16), z1, some (.int v2), some (.int v3), some (.int v4), z5, z6, z7], [.int (v2 - v4), .ref 2, .int (M.1 2 v2.toNatClampNeg)], M)) (by decide +kernel) (hO := mm_own_97) rfl ?_
    obtain ⟨hb, h⟩ := mm_gd h
    refine mm_R_iald rfl rfl hb ?_
    refine mm_R_ine (t := 108) rfl rfl rfl (fun hc => ?_) (fun hc => ?_)
    · replace h := mm_ip hc h
      refine mm_Runs.seq (l := [(104, .iconst 1, 1), (105, .goto 4, 3)]) (S2 := (109, [some (.ref 16), z1, some (.int v2), some (.int v3), some (.int v4), z5, z6, z7], [.int (1 : Int32)], M)) (by decide +kernel) (hO := mm_own_97) rfl ?_
      exact (ms_97_j109 hd h hA : mp_97_109 L xs (d + 1) v2 v3 v4 (1 : Int32) M o) z1 z5 z6 z7
    · replace h := mm_iq hc h
      refine mm_Runs.seq (l := [(108, .iconst 0, 1)]) (S2 := (109, [some (.ref 16), z1, some (.int v2), some (.int v3), some (.int v4), z5, z6, z7], [.int (0 : Int32)], M)) (by decide +kernel) (hO := mm_own_97) rfl ?_
      exact (ms_97_j109 hd h hA : mp_97_109 L xs (d + 1) v2 v3 v4 (0 : Int32) M o) z1 z5 z6 z7
theorem ms_97_L74 {L : Nat} {xs : Nat → Int32} {d : Nat} (hd : 4 ≤ d) {v2 : Int32} {v3 : Int32} {v4 : Int32} {β : Type} {K : β → mm_M → mm_E → Prop} {F : (Unit) → mm_M → mm_O β} {M : mm_M} {q : (β ⊕ Nat) × mm_M} {o : mm_E} (h : mm_B (mf_97_L74 v2 (v3, v4) M) F = some q) (hA : mm_A K q o) (hx : ∀ (r : (Unit)) (M2 : mm_M), F r M2 = some q → (fun r M o => mp_97_214 L xs (d) v2 M o) r M2 o) : mp_97_74 L xs d v2 v3 v4 M o := mm_R_loop (s := (v3, v4)) (M := M) (P := (fun s M o => mp_97_74 L xs (d) v2 s.1 s.2 M o)) (X := (fun r M o => mp_97_214 L xs (d) v2 M o)) h hA (fun s M q hq hA => ms_97_b74 hd hq hA) hx
noncomputable def mf_97_b38 (v2 : Int32) (M : mm_M) : mm_O ((Int32) ⊕ (Unit)) := if v2 < 0 then (some (.inl (.inr ()), M)) else (if mm_in v2 10000 then mm_B (mf_82 (M.1 2 v2.toNatClampNeg) M) (fun r1 M2 => if mm_in (v2 + (1 : Int32)) 301 then if mm_in v2 301 then mm_B (mf_97_L74 v2 ((2 : Int32), (1 : Int32)) (mm_pi M2 33 v2.toNatClampNeg (r1 + (M2.1 33 (v2 + (1 : Int32)).toNatClampNeg)))) (fun r4 M3 => some (.inl (.inl (v2 + (-1 : Int32))), M3)) else none else none) else none)
noncomputable def mf_97_L38 (s : Int32) (M : mm_M) : mm_O (Unit) := mm_L (fun s M => mf_97_b38 s M) s M
set_option maxRecDepth 8000 in
set_option maxHeartbeats 4000000 in
theorem ms_97_b38 {L : Nat} {xs : Nat → Int32} {d : Nat} (hd : 4 ≤ d) {v2 : Int32} {M : mm_M} {q : (((Int32) ⊕ (Unit)) ⊕ Nat) × mm_M} {o : mm_E} (h : mf_97_b38 v2 M = some q) (hA : mm_A (mm_K2 (fun s M o => mp_97_38 L xs (d) s M o) (fun r M o => mp_97_220 L xs (d) M o)) q o) : mp_97_38 L xs d v2 M o := by
  unfold mf_97_b38 at h
  obtain ⟨d, rfl⟩ := mm_d1 (n := 3) hd
  intro z1 z3 z4 z5 z6 z7
  show mm_Runs L xs (d + 1) 97 (38, [some (.ref 16), z1, some (.int v2), z3, z4, z5, z6, z7], [], M) o
  refine mm_Runs.seq (l := [(38, .iload_n 2, 1)]) (S2 := (39, [some (.ref 16), z1, some (.int v2), z3, z4, z5, z6, z7], [.int v2], M)) (by decide +kernel) (hO := mm_own_97) rfl ?_
  refine mm_R_zlt (t := 220) rfl rfl rfl (fun hc => ?_) (fun hc => ?_)
  · replace h := mm_ip hc h
    cases h
    exact (show mp_97_220 L xs (d + 1) M o from hA) z1 (some (.int v2)) z3 z4 z5 z6 z7
  · replace h := mm_iq hc h
    refine mm_Runs.seq (l := [(42, .aload_n 0, 1), (43, .getfield 33, 3), (46, .iload_n 2, 1), (47, .aload_n 0, 1), (48, .getfield 39, 3), (51, .getfield 94, 3), (54, .iload_n 2, 1)]) (S2 := (55, [some (.ref 16), z1, some (.int v2), z3, z4, z5, z6, z7], [.int v2, .ref 2, .int v2, .ref 33], M)) (by decide +kernel) (hO := mm_own_97) rfl ?_
    obtain ⟨hb, h⟩ := mm_gd h
    refine mm_R_iald rfl rfl hb ?_
    refine mm_R_call (v := mm_wi) h hA (k2 := 82) (as := [.int (M.1 2 v2.toNatClampNeg)]) (r := [.int v2, .ref 33]) rfl (fun _ => rfl) (fun q hq o ho => ms_82 (by omega) hq ho) (fun r1 M2 h => ?_)
    show mm_Runs L xs (d + 1) 97 (59, [some (.ref 16), z1, some (.int v2), z3, z4, z5, z6, z7], [.int r1, .int v2, .ref 33], M2) o
    refine mm_Runs.seq (l := [(59, .aload_n 0, 1), (60, .getfield 33, 3), (63, .iload_n 2, 1), (64, .iconst 1, 1), (65, .iadd, 1)]) (S2 := (66, [some (.ref 16), z1, some (.int v2), z3, z4, z5, z6, z7], [.int (v2 + (1 : Int32)), .ref 33, .int r1, .int v2, .ref 33], M2)) (by decide +kernel) (hO := mm_own_97) rfl ?_
    obtain ⟨hb, h⟩ := mm_gd h
    refine mm_R_iald rfl rfl hb ?_
    refine mm_Runs.seq (l := [(67, .iadd, 1)]) (S2 := (68, [some (.ref 16), z1, some (.int v2), z3, z4, z5, z6, z7], [.int (r1 + (M2.1 33 (v2 + (1 : Int32)).toNatClampNeg)), .int v2, .ref 33], M2)) (by decide +kernel) (hO := mm_own_97) rfl ?_
    obtain ⟨hb, h⟩ := mm_gd h
    refine mm_R_iast rfl rfl hb ?_
    refine mm_Runs.seq (l := [(69, .iconst 2, 1), (70, .istore_n 3, 1), (71, .iconst 1, 1), (72, .istore 4, 2)]) (S2 := (74, [some (.ref 16), z1, some (.int v2), some (.int (2 : Int32)), some (.int (1 : Int32)), z5, z6, z7], [], (mm_pi M2 33 v2.toNatClampNeg (r1 + (M2.1 33 (v2 + (1 : Int32)).toNatClampNeg))))) (by decide +kernel) (hO := mm_own_97) rfl ?_
    have hp : mp_97_74 L xs (d + 1) v2 (2 : Int32) (1 : Int32) (mm_pi M2 33 v2.toNatClampNeg (r1 + (M2.1 33 (v2 + (1 : Int32)).toNatClampNeg))) o := by
      refine ms_97_L74 hd h hA (fun r4 M3 h => ?_)
      intro y5 y6 y7 y8 y9 y10
      show mm_Runs L xs (d + 1) 97 (214, [some (.ref 16), y5, some (.int v2), y6, y7, y8, y9, y10], [], M3) o
      refine mm_Runs.seq (l := [(214, .iinc 2 (-1), 3), (217, .goto (-179), 3)]) (S2 := (38, [some (.ref 16), (mm_no2 y5), some (.int (v2 + (-1 : Int32))), y6, y7, y8, y9, y10], [], M3)) (by decide +kernel) (hO := mm_own_97) rfl ?_
      cases h
      exact (show mp_97_38 L xs (d + 1) (v2 + (-1 : Int32)) M3 o from hA) ((mm_no2 y5)) y6 y7 y8 y9 y10
    exact hp z1 z5 z6 z7
theorem ms_97_L38 {L : Nat} {xs : Nat → Int32} {d : Nat} (hd : 4 ≤ d) {v2 : Int32} {β : Type} {K : β → mm_M → mm_E → Prop} {F : (Unit) → mm_M → mm_O β} {M : mm_M} {q : (β ⊕ Nat) × mm_M} {o : mm_E} (h : mm_B (mf_97_L38 v2 M) F = some q) (hA : mm_A K q o) (hx : ∀ (r : (Unit)) (M2 : mm_M), F r M2 = some q → (fun r M o => mp_97_220 L xs (d) M o) r M2 o) : mp_97_38 L xs d v2 M o := mm_R_loop (s := v2) (M := M) (P := (fun s M o => mp_97_38 L xs (d) s M o)) (X := (fun r M o => mp_97_220 L xs (d) M o)) h hA (fun s M q hq hA => ms_97_b38 hd hq hA) hx
noncomputable def mf_97_j220 (M : mm_M) : mm_O Int32 := if mm_in (0 : Int32) 301 then some (.inl ((3 : Int32) + (M.1 33 (0 : Int32).toNatClampNeg)), M) else none
set_option maxRecDepth 8000 in
set_option maxHeartbeats 4000000 in
theorem ms_97_j220 {L : Nat} {xs : Nat → Int32} {d : Nat} (hd : 4 ≤ d) {M : mm_M} {q : (Int32 ⊕ Nat) × mm_M} {o : mm_E} (h : mf_97_j220 M = some q) (hA : mm_A (mm_Kr mm_wi) q o) : mp_97_220 L xs d M o := by
  unfold mf_97_j220 at h
  obtain ⟨d, rfl⟩ := mm_d1 (n := 3) hd
  intro z1 z2 z3 z4 z5 z6 z7
  show mm_Runs L xs (d + 1) 97 (220, [some (.ref 16), z1, z2, z3, z4, z5, z6, z7], [], M) o
  refine mm_Runs.seq (l := [(220, .iconst 3, 1), (221, .aload_n 0, 1), (222, .getfield 33, 3), (225, .iconst 0, 1)]) (S2 := (226, [some (.ref 16), z1, z2, z3, z4, z5, z6, z7], [.int (0 : Int32), .ref 33, .int (3 : Int32)], M)) (by decide +kernel) (hO := mm_own_97) rfl ?_
  obtain ⟨hb, h⟩ := mm_gd h
  refine mm_R_iald rfl rfl hb ?_
  refine mm_Runs.seq (l := [(227, .iadd, 1)]) (S2 := (228, [some (.ref 16), z1, z2, z3, z4, z5, z6, z7], [.int ((3 : Int32) + (M.1 33 (0 : Int32).toNatClampNeg))], M)) (by decide +kernel) (hO := mm_own_97) rfl ?_
  cases h
  exact mm_R_reti rfl rfl hA
noncomputable def mf_97 (M : mm_M) : mm_O Int32 := mm_B (mf_290 34 301 (0 : Int32) M) (fun _ M1 => mm_B (mf_82 (256 : Int32) M1) (fun r2 M3 => if mm_in (mm_min (M.1 1 1) (300 : Int32)) 301 then mm_B (mf_97_L38 ((mm_min (M.1 1 1) (300 : Int32)) - (1 : Int32)) (mm_pi M3 33 (mm_min (M.1 1 1) (300 : Int32)).toNatClampNeg r2)) (fun r5 M4 => mf_97_j220 M4) else none))
set_option maxRecDepth 8000 in
set_option maxHeartbeats 4000000 in
theorem ms_97 {L : Nat} {xs : Nat → Int32} {d : Nat} (hd : 4 ≤ d) {M : mm_M} {q : (Int32 ⊕ Nat) × mm_M} {o : mm_E} (h : mf_97 M = some q) (hA : mm_A (mm_Kr mm_wi) q o) : mm_Runs L xs d 97 (0, mm_ent (mm_ml 97) [.ref 16], [], M) o := by
  unfold mf_97 at h
  obtain ⟨d, rfl⟩ := mm_d1 (n := 3) hd
  show mm_Runs L xs (d + 1) 97 (0, [some (.ref 16), none, none, none, none, none, none, none], [], M) o
  refine mm_Runs.seq (l := [(0, .aload_n 0, 1), (1, .getfield 39, 3), (4, .getfield 191, 3), (7, .sipush 300, 3)]) (S2 := (10, [some (.ref 16), none, none, none, none, none, none, none], [.int (300 : Int32), .int (M.1 1 1)], M)) (by decide +kernel) (hO := mm_own_97) rfl ?_
  refine mm_R_intr (st2 := [.int (mm_min (M.1 1 1) (300 : Int32))]) (M2 := M) rfl rfl (by omega) ?_
  refine mm_Runs.seq (l := [(13, .istore_n 1, 1), (14, .aload_n 0, 1), (15, .getfield 36, 3), (18, .iconst 0, 1)]) (S2 := (19, [some (.ref 16), some (.int (mm_min (M.1 1 1) (300 : Int32))), none, none, none, none, none, none], [.int (0 : Int32), .ref 34], M)) (by decide +kernel) (hO := mm_own_97) rfl ?_
  refine mm_R_call (v := mm_wv) h hA (k2 := 290) (as := [.ref 34, .int (0 : Int32)]) (r := []) rfl (fun _ => rfl) (fun q hq o ho => ms_290 rfl (by omega) hq ho) (fun _ M1 h => ?_)
  show mm_Runs L xs (d + 1) 97 (22, [some (.ref 16), some (.int (mm_min (M.1 1 1) (300 : Int32))), none, none, none, none, none, none], [], M1) o
  refine mm_Runs.seq (l := [(22, .aload_n 0, 1), (23, .getfield 33, 3), (26, .iload_n 1, 1), (27, .sipush 256, 3)]) (S2 := (30, [some (.ref 16), some (.int (mm_min (M.1 1 1) (300 : Int32))), none, none, none, none, none, none], [.int (256 : Int32), .int (mm_min (M.1 1 1) (300 : Int32)), .ref 33], M1)) (by decide +kernel) (hO := mm_own_97) rfl ?_
  refine mm_R_call (v := mm_wi) h hA (k2 := 82) (as := [.int (256 : Int32)]) (r := [.int (mm_min (M.1 1 1) (300 : Int32)), .ref 33]) rfl (fun _ => rfl) (fun q hq o ho => ms_82 (by omega) hq ho) (fun r2 M3 h => ?_)
  show mm_Runs L xs (d + 1) 97 (33, [some (.ref 16), some (.int (mm_min (M.1 1 1) (300 : Int32))), none, none, none, none, none, none], [.int r2, .int (mm_min (M.1 1 1) (300 : Int32)), .ref 33], M3) o
  obtain ⟨hb, h⟩ := mm_gd h
  refine mm_R_iast rfl rfl hb ?_
  refine mm_Runs.seq (l := [(34, .iload_n 1, 1), (35, .iconst 1, 1), (36, .isub, 1), (37, .istore_n 2, 1)]) (S2 := (38, [some (.ref 16), some (.int (mm_min (M.1 1 1) (300 : Int32))), some (.int ((mm_min (M.1 1 1) (300 : Int32)) - (1 : Int32))), none, none, none, none, none], [], (mm_pi M3 33 (mm_min (M.1 1 1) (300 : Int32)).toNatClampNeg r2))) (by decide +kernel) (hO := mm_own_97) rfl ?_
  have hp : mp_97_38 L xs (d + 1) ((mm_min (M.1 1 1) (300 : Int32)) - (1 : Int32)) (mm_pi M3 33 (mm_min (M.1 1 1) (300 : Int32)).toNatClampNeg r2) o := by
    refine ms_97_L38 hd h hA (fun r5 M4 h => ?_)
    intro y6 y7 y8 y9 y10 y11 y12
    show mm_Runs L xs (d + 1) 97 (220, [some (.ref 16), y6, y7, y8, y9, y10, y11, y12], [], M4) o
    exact (ms_97_j220 hd h hA : mp_97_220 L xs (d + 1) M4 o) y6 y7 y8 y9 y10 y11 y12
  exact hp (some (.int (mm_min (M.1 1 1) (300 : Int32)))) none none none none none
