/-! MEANINGS 26 -/
-- 237: PlainPacksModel.chancesTold()V (depth 7)
theorem mm_own_237 : mm_own 237 = 12 := rfl
def mp_237_34 (L : Nat) (xs : Nat → Int32) (d : Nat) (v1 : Int32) (M : mm_M) (o : mm_E) : Prop := ∀ z2 z3 z4 : Option Value, mm_Runs L xs d 237 (34, [some (.ref 84), some (.int v1), z2, z3, z4], [], M) o
def mp_237_38 (L : Nat) (xs : Nat → Int32) (d : Nat) (v1 : Int32) (M : mm_M) (o : mm_E) : Prop := ∀ z2 z3 z4 : Option Value, mm_Runs L xs d 237 (38, [some (.ref 84), some (.int v1), z2, z3, z4], [], M) o
def mp_237_74 (L : Nat) (xs : Nat → Int32) (d : Nat) (v1 : Int32) (v2 : Int64) (M : mm_M) (o : mm_E) : Prop := ∀ z3 z4 : Option Value, mm_Runs L xs d 237 (74, [some (.ref 84), some (.int v1), some (.long v2), z3, z4], [], M) o
def mp_237_78 (L : Nat) (xs : Nat → Int32) (d : Nat) (v1 : Int32) (v2 : Int64) (M : mm_M) (o : mm_E) : Prop := ∀ z3 z4 : Option Value, mm_Runs L xs d 237 (78, [some (.ref 84), some (.int v1), some (.long v2), z3, z4], [], M) o
def mp_237_98 (L : Nat) (xs : Nat → Int32) (d : Nat) (v1 : Int32) (v2 : Int64) (v4 : Int32) (M : mm_M) (o : mm_E) : Prop := ∀ z3 : Option Value, mm_Runs L xs d 237 (98, [some (.ref 84), some (.int v1), some (.long v2), z3, some (.int v4)], [], M) o
def mp_237_127 (L : Nat) (xs : Nat → Int32) (d : Nat) (v1 : Int32) (v2 : Int64) (M : mm_M) (o : mm_E) : Prop := ∀ z3 z4 : Option Value, mm_Runs L xs d 237 (127, [some (.ref 84), some (.int v1), some (.long v2), z3, z4], [], M) o
noncomputable def mf_237_b98 (v1 : Int32) (v2 : Int64) (v4 : Int32) (M : mm_M) : mm_O ((Int32) ⊕ (Unit)) := if v4 < (4 : Int32) then (mm_B (mf_191 M) (fun r1 M2 => some (.inl (.inl (v4 + (1 : Int32))), (mm_pl M2 84 34 ((mm_lshl (M.2.1 84 34) (8 : Int32)) ||| r1.toInt64))))) else (some (.inl (.inr ()), M))
noncomputable def mf_237_L98 (v1 : Int32) (v2 : Int64) (s : Int32) (M : mm_M) : mm_O (Unit) := mm_L (fun s M => mf_237_b98 v1 v2 s M) s M
set_option maxRecDepth 8000 in
set_option maxHeartbeats 4000000 in
theorem ms_237_b98 {L : Nat} {xs : Nat → Int32} {d : Nat} (hd : 7 ≤ d) {v1 : Int32} {v2 : Int64} {v4 : Int32} {M : mm_M} {q : (((Int32) ⊕ (Unit)) ⊕ Nat) × mm_M} {o : mm_E} (h : mf_237_b98 v1 v2 v4 M = some q) (hA : mm_A (mm_K2 (fun s M o => mp_237_98 L xs (d) v1 v2 s M o) (fun r M o => mp_237_127 L xs (d) v1 v2 M o)) q o) : mp_237_98 L xs d v1 v2 v4 M o := by
  unfold mf_237_b98 at h
  obtain ⟨d, rfl⟩ := mm_d1 (n := 6) hd
  intro z3
  show mm_Runs L xs (d + 1) 237 (98, [some (.ref 84), some (.int v1), some (.long v2), z3, some (.int v4)], [], M) o
  refine mm_Runs.seq (l := [(98, .iload 4, 2), (100, .iconst 4, 1)]) (S2 := (101, [some (.ref 84), some (.int v1), some (.long v2), z3, some (.int v4)], [.int (4 : Int32), .int v4], M)) (by decide +kernel) (hO := mm_own_237) rfl ?_
  refine mm_R_ige (t := 127) rfl rfl rfl (fun hc => ?_) (fun hc => ?_)
  · replace h := mm_ip hc h
    refine mm_Runs.seq (l := [(104, .aload_n 0, 1), (105, .aload_n 0, 1), (106, .getfield 325, 3), (109, .bipush 8, 2), (111, .lshl, 1), (112, .aload_n 0, 1)]) (S2 := (113, [some (.ref 84), some (.int v1), some (.long v2), z3, some (.int v4)], [.ref 84, .long (mm_lshl (M.2.1 84 34) (8 : Int32)), .ref 84], M)) (by decide +kernel) (hO := mm_own_237) rfl ?_
    refine mm_R_call (v := mm_wi) h hA (k2 := 191) (as := [.ref 84]) (r := [.long (mm_lshl (M.2.1 84 34) (8 : Int32)), .ref 84]) rfl (fun _ => rfl) (fun q hq o ho => ms_191 (by omega) hq ho) (fun r1 M2 h => ?_)
    show mm_Runs L xs (d + 1) 237 (116, [some (.ref 84), some (.int v1), some (.long v2), z3, some (.int v4)], [.int r1, .long (mm_lshl (M.2.1 84 34) (8 : Int32)), .ref 84], M2) o
    refine mm_Runs.seq (l := [(116, .i2l, 1), (117, .lor, 1), (118, .putfield 325, 3), (121, .iinc 4 1, 3), (124, .goto (-26), 3)]) (S2 := (98, [some (.ref 84), some (.int v1), some (.long v2), (mm_no2 z3), some (.int (v4 + (1 : Int32)))], [], (mm_pl M2 84 34 ((mm_lshl (M.2.1 84 34) (8 : Int32)) ||| r1.toInt64)))) (by decide +kernel) (hO := mm_own_237) rfl ?_
    cases h
    exact (show mp_237_98 L xs (d + 1) v1 v2 (v4 + (1 : Int32)) (mm_pl M2 84 34 ((mm_lshl (M.2.1 84 34) (8 : Int32)) ||| r1.toInt64)) o from hA) ((mm_no2 z3))
  · replace h := mm_iq hc h
    cases h
    exact (show mp_237_127 L xs (d + 1) v1 v2 M o from hA) z3 (some (.int v4))
theorem ms_237_L98 {L : Nat} {xs : Nat → Int32} {d : Nat} (hd : 7 ≤ d) {v1 : Int32} {v2 : Int64} {v4 : Int32} {β : Type} {K : β → mm_M → mm_E → Prop} {F : (Unit) → mm_M → mm_O β} {M : mm_M} {q : (β ⊕ Nat) × mm_M} {o : mm_E} (h : mm_B (mf_237_L98 v1 v2 v4 M) F = some q) (hA : mm_A K q o) (hx : ∀ (r : (Unit)) (M2 : mm_M), F r M2 = some q → (fun r M o => mp_237_127 L xs (d) v1 v2 M o) r M2 o) : mp_237_98 L xs d v1 v2 v4 M o := mm_R_loop (s := v4) (M := M) (P := (fun s M o => mp_237_98 L xs (d) v1 v2 s M o)) (X := (fun r M o => mp_237_127 L xs (d) v1 v2 M o)) h hA (fun s M q hq hA => ms_237_b98 hd hq hA) hx
def mp_237_164 (L : Nat) (xs : Nat → Int32) (d : Nat) (v2 : Int64) (v4 : Int32) (M : mm_M) (o : mm_E) : Prop := ∀ z1 z3 : Option Value, mm_Runs L xs d 237 (164, [some (.ref 84), z1, some (.long v2), z3, some (.int v4)], [], M) o
def mp_237_188 (L : Nat) (xs : Nat → Int32) (d : Nat) (v2 : Int64) (M : mm_M) (o : mm_E) : Prop := ∀ z1 z3 z4 : Option Value, mm_Runs L xs d 237 (188, [some (.ref 84), z1, some (.long v2), z3, z4], [], M) o
noncomputable def mf_237_b164 (v2 : Int64) (v4 : Int32) (M : mm_M) : mm_O ((Int32) ⊕ (Unit)) := if v4 < (14540 : Int32) then (if mm_in v4 14540 then some (.inl (.inl (v4 + (1 : Int32))), (mm_pi M 98 v4.toNatClampNeg (1024 : Int32))) else none) else (some (.inl (.inr ()), M))
noncomputable def mf_237_L164 (v2 : Int64) (s : Int32) (M : mm_M) : mm_O (Unit) := mm_L (fun s M => mf_237_b164 v2 s M) s M
set_option maxRecDepth 8000 in
set_option maxHeartbeats 4000000 in
theorem ms_237_b164 {L : Nat} {xs : Nat → Int32} {d : Nat} (hd : 7 ≤ d) {v2 : Int64} {v4 : Int32} {M : mm_M} {q : (((Int32) ⊕ (Unit)) ⊕ Nat) × mm_M} {o : mm_E} (h : mf_237_b164 v2 v4 M = some q) (hA : mm_A (mm_K2 (fun s M o => mp_237_164 L xs (d) v2 s M o) (fun r M o => mp_237_188 L xs (d) v2 M o)) q o) : mp_237_164 L xs d v2 v4 M o := by
  unfold mf_237_b164 at h
  obtain ⟨d, rfl⟩ := mm_d1 (n := 6) hd
  intro z1 z3
  show mm_Runs L xs (d + 1) 237 (164, [some (.ref 84), z1, some (.long v2), z3, some (.int v4)], [], M) o
  refine mm_Runs.seq (l := [(164, .iload 4, 2), (166, .sipush 14540, 3)]) (S2 := (169, [some (.ref 84), z1, some (.long v2), z3, some (.int v4)], [.int (14540 : Int32), .int v4], M)) (by decide +kernel) (hO := mm_own_237) rfl ?_
  refine mm_R_ige (t := 188) rfl rfl rfl (fun hc => ?_) (fun hc => ?_)
  · replace h := mm_ip hc h
    refine mm_Runs.seq (l := [(172, .aload_n 0, 1), (173, .getfield 50, 3), (176, .iload 4, 2), (178, .sipush 1024, 3)]) (S2 := (181, [some (.ref 84), z1, some (.long v2), z3, some (.int v4)], [.int (1024 : Int32), .int v4, .ref 98], M)) (by decide +kernel) (hO := mm_own_237) rfl ?_
    obtain ⟨hb, h⟩ := mm_gd h
    refine mm_R_iast rfl rfl hb ?_
    refine mm_Runs.seq (l := [(182, .iinc 4 1, 3), (185, .goto (-21), 3)]) (S2 := (164, [some (.ref 84), z1, some (.long v2), (mm_no2 z3), some (.int (v4 + (1 : Int32)))], [], (mm_pi M 98 v4.toNatClampNeg (1024 : Int32)))) (by decide +kernel) (hO := mm_own_237) rfl ?_
    cases h
    exact (show mp_237_164 L xs (d + 1) v2 (v4 + (1 : Int32)) (mm_pi M 98 v4.toNatClampNeg (1024 : Int32)) o from hA) z1 ((mm_no2 z3))
  · replace h := mm_iq hc h
    cases h
    exact (show mp_237_188 L xs (d + 1) v2 M o from hA) z1 z3 (some (.int v4))
theorem ms_237_L164 {L : Nat} {xs : Nat → Int32} {d : Nat} (hd : 7 ≤ d) {v2 : Int64} {v4 : Int32} {β : Type} {K : β → mm_M → mm_E → Prop} {F : (Unit) → mm_M → mm_O β} {M : mm_M} {q : (β ⊕ Nat) × mm_M} {o : mm_E} (h : mm_B (mf_237_L164 v2 v4 M) F = some q) (hA : mm_A K q o) (hx : ∀ (r : (Unit)) (M2 : mm_M), F r M2 = some q → (fun r M o => mp_237_188 L xs (d) v2 M o) r M2 o) : mp_237_164 L xs d v2 v4 M o := mm_R_loop (s := v4) (M := M) (P := (fun s M o => mp_237_164 L xs (d) v2 s M o)) (X := (fun r M o => mp_237_188 L xs (d) v2 M o)) h hA (fun s M q hq hA => ms_237_b164 hd hq hA) hx
def mp_237_196 (L : Nat) (xs : Nat → Int32) (d : Nat) (v2 : Int64) (v4 : Int32) (M : mm_M) (o : mm_E) : Prop := ∀ z1 z3 : Option Value, mm_Runs L xs d 237 (196, [some (.ref 84), z1, some (.long v2), z3, some (.int v4)], [], M) o
def mp_237_216 (L : Nat) (xs : Nat → Int32) (d : Nat) (v2 : Int64) (M : mm_M) (o : mm_E) : Prop := ∀ z1 z3 z4 : Option Value, mm_Runs L xs d 237 (216, [some (.ref 84), z1, some (.long v2), z3, z4], [], M) o
noncomputable def mf_237_b196 (v2 : Int64) (v4 : Int32) (M : mm_M) : mm_O ((Int32) ⊕ (Unit)) := if v4 < (4 : Int32) then (if mm_in v4 4 then some (.inl (.inl (v4 + (1 : Int32))), (mm_pl M 99 v4.toNatClampNeg (1 : Int64))) else none) else (some (.inl (.inr ()), M))
noncomputable def mf_237_L196 (v2 : Int64) (s : Int32) (M : mm_M) : mm_O (Unit) := mm_L (fun s M => mf_237_b196 v2 s M) s M
set_option maxRecDepth 8000 in
set_option maxHeartbeats 4000000 in
theorem ms_237_b196 {L : Nat} {xs : Nat → Int32} {d : Nat} (hd : 7 ≤ d) {v2 : Int64} {v4 : Int32} {M : mm_M} {q : (((Int32) ⊕ (Unit)) ⊕ Nat) × mm_M} {o : mm_E} (h : mf_237_b196 v2 v4 M = some q) (hA : mm_A (mm_K2 (fun s M o => mp_237_196 L xs (d) v2 s M o) (fun r M o => mp_237_216 L xs (d) v2 M o)) q o) : mp_237_196 L xs d v2 v4 M o := by
  unfold mf_237_b196 at h
  obtain ⟨d, rfl⟩ := mm_d1 (n := 6) hd
  intro z1 z3
  show mm_Runs L xs (d + 1) 237 (196, [some (.ref 84), z1, some (.long v2), z3, some (.int v4)], [], M) o
  refine mm_Runs.seq (l := [(196, .iload 4, 2), (198, .iconst 4, 1)]) (S2 := (199, [some (.ref 84), z1, some (.long v2), z3, some (.int v4)], [.int (4 : Int32), .int v4], M)) (by decide +kernel) (hO := mm_own_237) rfl ?_
  refine mm_R_ige (t := 216) rfl rfl rfl (fun hc => ?_) (fun hc => ?_)
  · replace h := mm_ip hc h
    refine mm_Runs.seq (l := [(202, .aload_n 0, 1), (203, .getfield 53, 3), (206, .iload 4, 2), (208, .lconst 1, 1)]) (S2 := (209, [some (.ref 84), z1, some (.long v2), z3, some (.int v4)], [.long (1 : Int64), .int v4, .ref 99], M)) (by decide +kernel) (hO := mm_own_237) rfl ?_
    obtain ⟨hb, h⟩ := mm_gd h
    refine mm_R_last rfl rfl hb ?_
    refine mm_Runs.seq (l := [(210, .iinc 4 1, 3), (213, .goto (-17), 3)]) (S2 := (196, [some (.ref 84), z1, some (.long v2), (mm_no2 z3), some (.int (v4 + (1 : Int32)))], [], (mm_pl M 99 v4.toNatClampNeg (1 : Int64)))) (by decide +kernel) (hO := mm_own_237) rfl ?_
    cases h
    exact (show mp_237_196 L xs (d + 1) v2 (v4 + (1 : Int32)) (mm_pl M 99 v4.toNatClampNeg (1 : Int64)) o from hA) z1 ((mm_no2 z3))
  · replace h := mm_iq hc h
    cases h
    exact (show mp_237_216 L xs (d + 1) v2 M o from hA) z1 z3 (some (.int v4))
theorem ms_237_L196 {L : Nat} {xs : Nat → Int32} {d : Nat} (hd : 7 ≤ d) {v2 : Int64} {v4 : Int32} {β : Type} {K : β → mm_M → mm_E → Prop} {F : (Unit) → mm_M → mm_O β} {M : mm_M} {q : (β ⊕ Nat) × mm_M} {o : mm_E} (h : mm_B (mf_237_L196 v2 v4 M) F = some q) (hA : mm_A K q o) (hx : ∀ (r : (Unit)) (M2 : mm_M), F r M2 = some q → (fun r M o => mp_237_216 L xs (d) v2 M o) r M2 o) : mp_237_196 L xs d v2 v4 M o := mm_R_loop (s := v4) (M := M) (P := (fun s M o => mp_237_196 L xs (d) v2 s M o)) (X := (fun r M o => mp_237_216 L xs (d) v2 M o)) h hA (fun s M q hq hA => ms_237_b196 hd hq hA) hx
def mp_237_219 (L : Nat) (xs : Nat → Int32) (d : Nat) (v2 : Int64) (v4 : Int32) (M : mm_M) (o : mm_E) : Prop := ∀ z1 z3 : Option Value, mm_Runs L xs d 237 (219, [some (.ref 84), z1, some (.long v2), z3, some (.int v4)], [], M) o
def mp_237_251 (L : Nat) (xs : Nat → Int32) (d : Nat) (M : mm_M) (o : mm_E) : Prop := ∀ z1 z2 z3 z4 : Option Value, mm_Runs L xs d 237 (251, [some (.ref 84), z1, z2, z3, z4], [], M) o
noncomputable def mf_237_b219 (v2 : Int64) (v4 : Int32) (M : mm_M) : mm_O ((Int32) ⊕ (Unit)) := if v4 = 0 then (some (.inl (.inr ()), M)) else (if (M.1 84 7) = 0 then (if (M.1 84 4).toInt64 = v2 then (some (.inl (.inr ()), M)) else (mm_B (mf_238 v2 M) (fun r1 M2 => some (.inl (.inl r1), M2)))) else (some (.inl (.inr ()), M)))
noncomputable def mf_237_L219 (v2 : Int64) (s : Int32) (M : mm_M) : mm_O (Unit) := mm_L (fun s M => mf_237_b219 v2 s M) s M
set_option maxRecDepth 8000 in
set_option maxHeartbeats 4000000 in
theorem ms_237_b219 {L : Nat} {xs : Nat → Int32} {d : Nat} (hd : 7 ≤ d) {v2 : Int64} {v4 : Int32} {M : mm_M} {q : (((Int32) ⊕ (Unit)) ⊕ Nat) × mm_M} {o : mm_E} (h : mf_237_b219 v2 v4 M = some q) (hA : mm_A (mm_K2 (fun s M o => mp_237_219 L xs (d) v2 s M o) (fun r M o => mp_237_251 L xs (d) M o)) q o) : mp_237_219 L xs d v2 v4 M o := by
  unfold mf_237_b219 at h
  obtain ⟨d, rfl⟩ := mm_d1 (n := 6) hd
  intro z1 z3
  show mm_Runs L xs (d + 1) 237 (219, [some (.ref 84), z1, some (.long v2), z3, some (.int v4)], [], M) o
  refine mm_Runs.seq (l := [(219, .iload 4, 2)]) (S2 := (221, [some (.ref 84), z1, some (.long v2), z3, some (.int v4)], [.int v4], M)) (by decide +kernel) (hO := mm_own_237) rfl ?_
  refine mm_R_zeq (t := 251) rfl rfl rfl (fun hc => ?_) (fun hc => ?_)
  · replace h := mm_ip hc h
    cases h
    exact (show mp_237_251 L xs (d + 1) M o from hA) z1 (some (.long v2)) z3 (some (.int v4))
  · replace h := mm_iq hc h
    refine mm_Runs.seq (l := [(224, .aload_n 0, 1), (225, .getfield 154, 3)]) (S2 := (228, [some (.ref 84), z1, some (.long v2), z3, some (.int v4)], [.int (M.1 84 7)], M)) (by decide +kernel) (hO := mm_own_237) rfl ?_
    refine mm_R_zne (t := 251) rfl rfl rfl (fun hc => ?_) (fun hc => ?_)
    · replace h := mm_ip hc h
      refine mm_Runs.seq (l := [(231, .aload_n 0, 1), (232, .getfield 98, 3), (235, .i2l, 1), (236, .lload_n 2, 1)]) (S2 := (237, [some (.ref 84), z1, some (.long v2), z3, some (.int v4)], [.long v2, .long (M.1 84 4).toInt64], M)) (by decide +kernel) (hO := mm_own_237) rfl ?_
      refine mm_R_leq (t := 251) rfl rfl rfl rfl (fun hc => ?_) (fun hc => ?_)
      · replace h := mm_ip hc h
        cases h
        exact (show mp_237_251 L xs (d + 1) M o from hA) z1 (some (.long v2)) z3 (some (.int v4))
      · replace h := mm_iq hc h
        refine mm_Runs.seq (l := [(241, .aload_n 0, 1), (242, .lload_n 2, 1)]) (S2 := (243, [some (.ref 84), z1, some (.long v2), z3, some (.int v4)], [.long v2, .ref 84], M)) (by decide +kernel) (hO := mm_own_237) rfl ?_
        refine mm_R_call (v := mm_wi) h hA (k2 := 238) (as := [.ref 84, .long v2]) (r := []) rfl (fun _ => rfl) (fun q hq o ho => ms_238 (by omega) hq ho) (fun r1 M2 h => ?_)
        show mm_Runs L xs (d + 1) 237 (246, [some (.ref 84), z1, some (.long v2), z3, some (.int v4)], [.int r1], M2) o
        refine mm_Runs.seq (l := [(246, .istore 4, 2), (248, .goto (-29), 3)]) (S2 := (219, [some (.ref 84), z1, some (.long v2), (mm_no2 z3), some (.int r1)], [], M2)) (by decide +kernel) (hO := mm_own_237) rfl ?_
        cases h
        exact (show mp_237_219 L xs (d + 1) v2 r1 M2 o from hA) z1 ((mm_no2 z3))
    · replace h := mm_iq hc h
      cases h
      exact (show mp_237_251 L xs (d + 1) M o from hA) z1 (some (.long v2)) z3 (some (.int v4))
theorem ms_237_L219 {L : Nat} {xs : Nat → Int32} {d : Nat} (hd : 7 ≤ d) {v2 : Int64} {v4 : Int32} {β : Type} {K : β → mm_M → mm_E → Prop} {F : (Unit) → mm_M → mm_O β} {M : mm_M} {q : (β ⊕ Nat) × mm_M} {o : mm_E} (h : mm_B (mf_237_L219 v2 v4 M) F = some q) (hA : mm_A K q o) (hx : ∀ (r : (Unit)) (M2 : mm_M), F r M2 = some q → (fun r M o => mp_237_251 L xs (d) M o) r M2 o) : mp_237_219 L xs d v2 v4 M o := mm_R_loop (s := v4) (M := M) (P := (fun s M o => mp_237_219 L xs (d) v2 s M o)) (X := (fun r M o => mp_237_251 L xs (d) M o)) h hA (fun s M q hq hA => ms_237_b219 hd hq hA) hx
noncomputable def mf_237_j251 (M : mm_M) : mm_O Unit := if (M.1 84 7) = 0 then (if (M.2.1 84 34) = (0 : Int64) then (some (.inl (), M)) else (mm_B (mf_190 M) (fun _ M1 => some (.inl (), M1)))) else (some (.inl (), M))
set_option maxRecDepth 8000 in
set_option maxHeartbeats 4000000 in
theorem ms_237_j251 {L : Nat} {xs : Nat → Int32} {d : Nat} (hd : 7 ≤ d) {M : mm_M} {q : (Unit ⊕ Nat) × mm_M} {o : mm_E} (h : mf_237_j251 M = some q) (hA : mm_A (mm_Kr mm_wv) q o) : mp_237_251 L xs d M o := by
  unfold mf_237_j251 at h
  obtain ⟨d, rfl⟩ := mm_d1 (n := 6) hd
  intro z1 z2 z3 z4
  show mm_Runs L xs (d + 1) 237 (251, [some (.ref 84), z1, z2, z3, z4], [], M) o
  refine mm_Runs.seq (l := [(251, .aload_n 0, 1), (252, .getfield 154, 3)]) (S2 := (255, [some (.ref 84), z1, z2, z3, z4], [.int (M.1 84 7)], M)) (by decide +kernel) (hO := mm_own_237) rfl ?_
  refine mm_R_zne (t := 271) rfl rfl rfl (fun hc => ?_) (fun hc => ?_)
  · replace h := mm_ip hc h
    refine mm_Runs.seq (l := [(258, .aload_n 0, 1), (259, .getfield 325, 3), (262, .lconst 0, 1)]) (S2 := (263, [some (.ref 84), z1, z2, z3, z4], [.long (0 : Int64), .long (M.2.1 84 34)], M)) (by decide +kernel) (hO := mm_own_237) rfl ?_
    refine mm_R_leq (t := 271) rfl rfl rfl rfl (fun hc => ?_) (fun hc => ?_)
    · replace h := mm_ip hc h
      cases h
      exact mm_R_retv rfl rfl hA
    · replace h := mm_iq hc h
      refine mm_Runs.seq (l := [(267, .aload_n 0, 1)]) (S2 := (268, [some (.ref 84), z1, z2, z3, z4], [.ref 84], M)) (by decide +kernel) (hO := mm_own_237) rfl ?_
      refine mm_R_call (v := mm_wv) h hA (k2 := 190) (as := [.ref 84]) (r := []) rfl (fun _ => rfl) (fun q hq o ho => ms_190 (by omega) hq ho) (fun _ M1 h => ?_)
      show mm_Runs L xs (d + 1) 237 (271, [some (.ref 84), z1, z2, z3, z4], [], M1) o
      cases h
      exact mm_R_retv rfl rfl hA
  · replace h := mm_iq hc h
    cases h
    exact mm_R_retv rfl rfl hA
noncomputable def mf_237_j127 (v1 : Int32) (v2 : Int64) (M : mm_M) : mm_O Unit := if (M.1 84 7) = 0 then (mm_B (mf_237_L164 v2 (0 : Int32) (mm_pi (mm_pi (mm_pi M 84 37 (mm_rem v1 (9 : Int32))) 84 38 (mm_rem (v1 / (9 : Int32)) (5 : Int32))) 84 39 (v1 / (45 : Int32)))) (fun r2 M1 => mm_B (mf_237_L196 v2 (0 : Int32) (mm_pi M1 84 35 (0 : Int32))) (fun r7 M6 => mm_B (mf_237_L219 v2 (1 : Int32) M6) (fun r12 M11 => mf_237_j251 M11)))) else (some (.inl (), M))
set_option maxRecDepth 8000 in
set_option maxHeartbeats 4000000 in
theorem ms_237_j127 {L : Nat} {xs : Nat → Int32} {d : Nat} (hd : 7 ≤ d) {v1 : Int32} {v2 : Int64} {M : mm_M} {q : (Unit ⊕ Nat) × mm_M} {o : mm_E} (h : mf_237_j127 v1 v2 M = some q) (hA : mm_A (mm_Kr mm_wv) q o) : mp_237_127 L xs d v1 v2 M o := by
  unfold mf_237_j127 at h
  obtain ⟨d, rfl⟩ := mm_d1 (n := 6) hd
  intro z3 z4
  show mm_Runs L xs (d + 1) 237 (127, [some (.ref 84), some (.int v1), some (.long v2), z3, z4], [], M) o
  refine mm_Runs.seq (l := [(127, .aload_n 0, 1), (128, .getfield 154, 3)]) (S2 := (131, [some (.ref 84), some (.int v1), some (.long v2), z3, z4], [.int (M.1 84 7)], M)) (by decide +kernel) (hO := mm_own_237) rfl ?_
  refine mm_R_zeq (t := 135) rfl rfl rfl (fun hc => ?_) (fun hc => ?_)
  · replace h := mm_ip hc h
    refine mm_Runs.seq (l := [(135, .aload_n 0, 1), (136, .iload_n 1, 1), (137, .bipush 9, 2), (139, .irem, 1), (140, .putfield 340, 3), (143, .aload_n 0, 1), (144, .iload_n 1, 1), (145, .bipush 9, 2), (147, .idiv, 1), (148, .iconst 5, 1), (149, .irem, 1), (150, .putfield 343, 3), (153, .aload_n 0, 1), (154, .iload_n 1, 1), (155, .bipush 45, 2), (157, .idiv, 1), (158, .putfield 346, 3), (161, .iconst 0, 1), (162, .istore 4, 2)]) (S2 := (164, [some (.ref 84), some (.int v1), some (.long v2), (mm_no2 z3), some (.int (0 : Int32))], [], (mm_pi (mm_pi (mm_pi M 84 37 (mm_rem v1 (9 : Int32))) 84 38 (mm_rem (v1 / (9 : Int32)) (5 : Int32))) 84 39 (v1 / (45 : Int32))))) (by decide +kernel) (hO := mm_own_237) rfl ?_
    have hp : mp_237_164 L xs (d + 1) v2 (0 : Int32) (mm_pi (mm_pi (mm_pi M 84 37 (mm_rem v1 (9 : Int32))) 84 38 (mm_rem (v1 / (9 : Int32)) (5 : Int32))) 84 39 (v1 / (45 : Int32))) o := by
      refine ms_237_L164 hd h hA (fun r2 M1 h => ?_)
      intro y3 y4 y5
      show mm_Runs L xs (d + 1) 237 (188, [some (.ref 84), y3, some (.long v2), y4, y5], [], M1) o
      refine mm_Runs.seq (l := [(188, .aload_n 0, 1), (189, .iconst 0, 1), (190, .putfield 349, 3), (193, .iconst 0, 1), (194, .istore 4, 2)]) (S2 := (196, [some (.ref 84), y3, some (.long v2), (mm_no2 y4), some (.int (0 : Int32))], [], (mm_pi M1 84 35 (0 : Int32)))) (by decide +kernel) (hO := mm_own_237) rfl ?_
      have hp : mp_237_196 L xs (d + 1) v2 (0 : Int32) (mm_pi M1 84 35 (0 : Int32)) o := by
        refine ms_237_L196 hd h hA (fun r7 M6 h => ?_)
        intro y8 y9 y10
        show mm_Runs L xs (d + 1) 237 (216, [some (.ref 84), y8, some (.long v2), y9, y10], [], M6) o
        refine mm_Runs.seq (l := [(216, .iconst 1, 1), (217, .istore 4, 2)]) (S2 := (219, [some (.ref 84), y8, some (.long v2), (mm_no2 y9), some (.int (1 : Int32))], [], M6)) (by decide +kernel) (hO := mm_own_237) rfl ?_
        have hp : mp_237_219 L xs (d + 1) v2 (1 : Int32) M6 o := by
          refine ms_237_L219 hd h hA (fun r12 M11 h => ?_)
          intro y13 y14 y15 y16
          show mm_Runs L xs (d + 1) 237 (251, [some (.ref 84), y13, y14, y15, y16], [], M11) o
          exact (ms_237_j251 hd h hA : mp_237_251 L xs (d + 1) M11 o) y13 y14 y15 y16
        exact hp y8 ((mm_no2 y9))
      exact hp y3 ((mm_no2 y4))
    exact hp (some (.int v1)) ((mm_no2 z3))
  · replace h := mm_iq hc h
    cases h
    exact mm_R_retv rfl rfl hA
noncomputable def mf_237_j78 (v1 : Int32) (v2 : Int64) (M : mm_M) : mm_O Unit := mm_B (mf_192 (0 : Int32) M) (fun _ M1 => mm_B (mf_237_L98 v1 v2 (0 : Int32) (mm_pl (mm_pl M1 84 33 (4294967295 : Int64)) 84 34 (0 : Int64))) (fun r3 M2 => mf_237_j127 v1 v2 M2))
set_option maxRecDepth 8000 in
set_option maxHeartbeats 4000000 in
theorem ms_237_j78 {L : Nat} {xs : Nat → Int32} {d : Nat} (hd : 7 ≤ d) {v1 : Int32} {v2 : Int64} {M : mm_M} {q : (Unit ⊕ Nat) × mm_M} {o : mm_E} (h : mf_237_j78 v1 v2 M = some q) (hA : mm_A (mm_Kr mm_wv) q o) : mp_237_78 L xs d v1 v2 M o := by
  unfold mf_237_j78 at h
  obtain ⟨d, rfl⟩ := mm_d1 (n := 6) hd
  intro z3 z4
  show mm_Runs L xs (d + 1) 237 (78, [some (.ref 84), some (.int v1), some (.long v2), z3, z4], [], M) o
  refine mm_Runs.seq (l := [(78, .aload_n 0, 1), (79, .iconst 0, 1)]) (S2 := (80, [some (.ref 84), some (.int v1), some (.long v2), z3, z4], [.int (0 : Int32), .ref 84], M)) (by decide +kernel) (hO := mm_own_237) rfl ?_
  refine mm_R_call (v := mm_wv) h hA (k2 := 192) (as := [.ref 84, .int (0 : Int32)]) (r := []) rfl (fun _ => rfl) (fun q hq o ho => ms_192 (by omega) hq ho) (fun _ M1 h => ?_)
  show mm_Runs L xs (d + 1) 237 (83, [some (.ref 84), some (.int v1), some (.long v2), z3, z4], [], M1) o
  refine mm_Runs.seq (l := [(83, .aload_n 0, 1), (84, .ldc2_w 272, 3), (87, .putfield 319, 3), (90, .aload_n 0, 1), (91, .lconst 0, 1), (92, .putfield 325, 3), (95, .iconst 0, 1), (96, .istore 4, 2)]) (S2 := (98, [some (.ref 84), some (.int v1), some (.long v2), (mm_no2 z3), some (.int (0 : Int32))], [], (mm_pl (mm_pl M1 84 33 (4294967295 : Int64)) 84 34 (0 : Int64)))) (by decide +kernel) (hO := mm_own_237) rfl ?_
  have hp : mp_237_98 L xs (d + 1) v1 v2 (0 : Int32) (mm_pl (mm_pl M1 84 33 (4294967295 : Int64)) 84 34 (0 : Int64)) o := by
    refine ms_237_L98 hd h hA (fun r3 M2 h => ?_)
    intro y4 y5
    show mm_Runs L xs (d + 1) 237 (127, [some (.ref 84), some (.int v1), some (.long v2), y4, y5], [], M2) o
    exact (ms_237_j127 hd h hA : mp_237_127 L xs (d + 1) v1 v2 M2 o) y4 y5
  exact hp ((mm_no2 z3))
noncomputable def mf_237_j74 (v1 : Int32) (v2 : Int64) (M : mm_M) : mm_O Unit := mm_B (mf_190 M) (fun _ M1 => mf_237_j78 v1 v2 M1)
set_option maxRecDepth 8000 in
set_option maxHeartbeats 4000000 in
theorem ms_237_j74 {L : Nat} {xs : Nat → Int32} {d : Nat} (hd : 7 ≤ d) {v1 : Int32} {v2 : Int64} {M : mm_M} {q : (Unit ⊕ Nat) × mm_M} {o : mm_E} (h : mf_237_j74 v1 v2 M = some q) (hA : mm_A (mm_Kr mm_wv) q o) : mp_237_74 L xs d v1 v2 M o := by
  unfold mf_237_j74 at h
  obtain ⟨d, rfl⟩ := mm_d1 (n := 6) hd
  intro z3 z4
  show mm_Runs L xs (d + 1) 237 (74, [some (.ref 84), some (.int v1), some (.long v2), z3, z4], [], M) o
  refine mm_Runs.seq (l := [(74, .aload_n 0, 1)]) (S2 := (75, [some (.ref 84), some (.int v1), some (.long v2), z3, z4], [.ref 84], M)) (by decide +kernel) (hO := mm_own_237) rfl ?_
  refine mm_R_call (v := mm_wv) h hA (k2 := 190) (as := [.ref 84]) (r := []) rfl (fun _ => rfl) (fun q hq o ho => ms_190 (by omega) hq ho) (fun _ M1 h => ?_)
  show mm_Runs L xs (d + 1) 237 (78, [some (.ref 84), some (.int v1), some (.long v2), z3, z4], [], M1) o
  exact (ms_237_j78 hd h hA : mp_237_78 L xs (d + 1) v1 v2 M1 o) z3 z4
noncomputable def mf_237_j38 (v1 : Int32) (M : mm_M) : mm_O Unit := mm_B (mf_193 (4 : Int32) M) (fun r1 M2 => mm_B (mf_193 (8 : Int32) M2) (fun r3 M4 => if (M4.1 84 7) = 0 then (if r3 < (-1 : Int64) then (mf_237_j74 v1 r3 M4) else (if (16384 : Int64) < r3 then (mf_237_j74 v1 r3 M4) else (mf_237_j78 v1 r3 M4))) else (mf_237_j78 v1 r3 M4)))
set_option maxRecDepth 8000 in
set_option maxHeartbeats 4000000 in
theorem ms_237_j38 {L : Nat} {xs : Nat → Int32} {d : Nat} (hd : 7 ≤ d) {v1 : Int32} {M : mm_M} {q : (Unit ⊕ Nat) × mm_M} {o : mm_E} (h : mf_237_j38 v1 M = some q) (hA : mm_A (mm_Kr mm_wv) q o) : mp_237_38 L xs d v1 M o := by
  unfold mf_237_j38 at h
  obtain ⟨d, rfl⟩ := mm_d1 (n := 6) hd
  intro z2 z3 z4
  show mm_Runs L xs (d + 1) 237 (38, [some (.ref 84), some (.int v1), z2, z3, z4], [], M) o
  refine mm_Runs.seq (l := [(38, .aload_n 0, 1), (39, .iconst 4, 1)]) (S2 := (40, [some (.ref 84), some (.int v1), z2, z3, z4], [.int (4 : Int32), .ref 84], M)) (by decide +kernel) (hO := mm_own_237) rfl ?_
  refine mm_R_call (v := mm_wl) h hA (k2 := 193) (as := [.ref 84, .int (4 : Int32)]) (r := []) rfl (fun _ => rfl) (fun q hq o ho => ms_193 (by omega) hq ho) (fun r1 M2 h => ?_)
  show mm_Runs L xs (d + 1) 237 (43, [some (.ref 84), some (.int v1), z2, z3, z4], [.long r1], M2) o
  refine mm_Runs.seq (l := [(43, .pop2, 1), (44, .aload_n 0, 1), (45, .bipush 8, 2)]) (S2 := (47, [some (.ref 84), some (.int v1), z2, z3, z4], [.int (8 : Int32), .ref 84], M2)) (by decide +kernel) (hO := mm_own_237) rfl ?_
  refine mm_R_call (v := mm_wl) h hA (k2 := 193) (as := [.ref 84, .int (8 : Int32)]) (r := []) rfl (fun _ => rfl) (fun q hq o ho => ms_193 (by omega) hq ho) (fun r3 M4 h => ?_)
  show mm_Runs L xs (d + 1) 237 (50, [some (.ref 84), some (.int v1), z2, z3, z4], [.long r3], M4) o
  refine mm_Runs.seq (l := [(50, .lstore_n 2, 1), (51, .aload_n 0, 1), (52, .getfield 154, 3)]) (S2 := (55, [some (.ref 84), some (.int v1), some (.long r3), none, z4], [.int (M4.1 84 7)], M4)) (by decide +kernel) (hO := mm_own_237) rfl ?_
  refine mm_R_zne (t := 78) rfl rfl rfl (fun hc => ?_) (fun hc => ?_)
  · replace h := mm_ip hc h
    refine mm_Runs.seq (l := [(58, .lload_n 2, 1), (59, .ldc2_w 338, 3)]) (S2 := (62, [some (.ref 84), some (.int v1), some (.long r3), none, z4], [.long (-1 : Int64), .long r3], M4)) (by decide +kernel) (hO := mm_own_237) rfl ?_
    refine mm_R_llt (t := 74) rfl rfl rfl rfl (fun hc => ?_) (fun hc => ?_)
    · replace h := mm_ip hc h
      exact (ms_237_j74 hd h hA : mp_237_74 L xs (d + 1) v1 r3 M4 o) none z4
    · replace h := mm_iq hc h
      refine mm_Runs.seq (l := [(66, .lload_n 2, 1), (67, .ldc2_w 274, 3)]) (S2 := (70, [some (.ref 84), some (.int v1), some (.long r3), none, z4], [.long (16384 : Int64), .long r3], M4)) (by decide +kernel) (hO := mm_own_237) rfl ?_
      refine mm_R_lle (t := 78) rfl rfl rfl rfl (fun hc => ?_) (fun hc => ?_)
      · replace h := mm_ip hc h
        exact (ms_237_j74 hd h hA : mp_237_74 L xs (d + 1) v1 r3 M4 o) none z4
      · replace h := mm_iq hc h
        exact (ms_237_j78 hd h hA : mp_237_78 L xs (d + 1) v1 r3 M4 o) none z4
  · replace h := mm_iq hc h
    exact (ms_237_j78 hd h hA : mp_237_78 L xs (d + 1) v1 r3 M4 o) none z4
noncomputable def mf_237_j34 (v1 : Int32) (M : mm_M) : mm_O Unit := mm_B (mf_190 M) (fun _ M1 => mf_237_j38 v1 M1)
set_option maxRecDepth 8000 in
set_option maxHeartbeats 4000000 in
theorem ms_237_j34 {L : Nat} {xs : Nat → Int32} {d : Nat} (hd : 7 ≤ d) {v1 : Int32} {M : mm_M} {q : (Unit ⊕ Nat) × mm_M} {o : mm_E} (h : mf_237_j34 v1 M = some q) (hA : mm_A (mm_Kr mm_wv) q o) : mp_237_34 L xs d v1 M o := by
  unfold mf_237_j34 at h
  obtain ⟨d, rfl⟩ := mm_d1 (n := 6) hd
  intro z2 z3 z4
  show mm_Runs L xs (d + 1) 237 (34, [some (.ref 84), some (.int v1), z2, z3, z4], [], M) o
  refine mm_Runs.seq (l := [(34, .aload_n 0, 1)]) (S2 := (35, [some (.ref 84), some (.int v1), z2, z3, z4], [.ref 84], M)) (by decide +kernel) (hO := mm_own_237) rfl ?_
  refine mm_R_call (v := mm_wv) h hA (k2 := 190) (as := [.ref 84]) (r := []) rfl (fun _ => rfl) (fun q hq o ho => ms_190 (by omega) hq ho) (fun _ M1 h => ?_)
  show mm_Runs L xs (d + 1) 237 (38, [some (.ref 84), some (.int v1), z2, z3, z4], [], M1) o
  exact (ms_237_j38 hd h hA : mp_237_38 L xs (d + 1) v1 M1 o) z2 z3 z4
noncomputable def mf_237 (M : mm_M) : mm_O Unit := mm_B (mf_191 M) (fun r1 M2 => if (M2.1 84 7) = 0 then (if (224 : Int32) < r1 then (mf_237_j34 r1 M2) else (if (4 : Int32) < ((mm_rem r1 (9 : Int32)) + (mm_rem (r1 / (9 : Int32)) (5 : Int32))) then (mf_237_j34 r1 M2) else (mf_237_j38 r1 M2))) else (mf_237_j38 r1 M2))
set_option maxRecDepth 8000 in
set_option maxHeartbeats 4000000 in
theorem ms_237 {L : Nat} {xs : Nat → Int32} {d : Nat} (hd : 7 ≤ d) {M : mm_M} {q : (Unit ⊕ Nat) × mm_M} {o : mm_E} (h : mf_237 M = some q) (hA : mm_A (mm_Kr mm_wv) q o) : mm_Runs L xs d 237 (0, mm_ent (mm_ml 237) [.ref 84], [], M) o := by
  unfold mf_237 at h
  obtain ⟨d, rfl⟩ := mm_d1 (n := 6) hd
  show mm_Runs L xs (d + 1) 237 (0, [some (.ref 84), none, none, none, none], [], M) o
  refine mm_Runs.seq (l := [(0, .aload_n 0, 1)]) (S2 := (1, [some (.ref 84), none, none, none, none], [.ref 84], M)) (by decide +kernel) (hO := mm_own_237) rfl ?_
  refine mm_R_call (v := mm_wi) h hA (k2 := 191) (as := [.ref 84]) (r := []) rfl (fun _ => rfl) (fun q hq o ho => ms_191 (by omega) hq ho) (fun r1 M2 h => ?_)
  show mm_Runs L xs (d + 1) 237 (4, [some (.ref 84), none, none, none, none], [.int r1], M2) o
  refine mm_Runs.seq (l := [(4, .istore_n 1, 1), (5, .aload_n 0, 1), (6, .getfield 154, 3)]) (S2 := (9, [some (.ref 84), some (.int r1), none, none, none], [.int (M2.1 84 7)], M2)) (by decide +kernel) (hO := mm_own_237) rfl ?_
  refine mm_R_zne (t := 38) rfl rfl rfl (fun hc => ?_) (fun hc => ?_)
  · replace h := mm_ip hc h
    refine mm_Runs.seq (l := [(12, .iload_n 1, 1), (13, .sipush 224, 3)]) (S2 := (16, [some (.ref 84), some (.int r1), none, none, none], [.int (224 : Int32), .int r1], M2)) (by decide +kernel) (hO := mm_own_237) rfl ?_
    refine mm_R_igt (t := 34) rfl rfl rfl (fun hc => ?_) (fun hc => ?_)
    · replace h := mm_ip hc h
      exact (ms_237_j34 hd h hA : mp_237_34 L xs (d + 1) r1 M2 o) none none none
    · replace h := mm_iq hc h
      refine mm_Runs.seq (l := [(19, .iload_n 1, 1), (20, .bipush 9, 2), (22, .irem, 1), (23, .iload_n 1, 1), (24, .bipush 9, 2), (26, .idiv, 1), (27, .iconst 5, 1), (28, .irem, 1), (29, .iadd, 1), (30, .iconst 4, 1)]) (S2 := (31, [some (.ref 84), some (.int r1), none, none, none], [.int (4 : Int32), .int ((mm_rem r1 (9 : Int32)) + (mm_rem (r1 / (9 : Int32)) (5 : Int32)))], M2)) (by decide +kernel) (hO := mm_own_237) rfl ?_
      refine mm_R_ile (t := 38) rfl rfl rfl (fun hc => ?_) (fun hc => ?_)
      · replace h := mm_ip hc h
        exact (ms_237_j34 hd h hA : mp_237_34 L xs (d + 1) r1 M2 o) none none none
      · replace h := mm_iq hc h
        exact (ms_237_j38 hd h hA : mp_237_38 L xs (d + 1) r1 M2 o) none none none
  · replace h := mm_iq hc h
    exact (ms_237_j38 hd h hA : mp_237_38 L xs (d + 1) r1 M2 o) none none none
-- 244: PlainPacksModel.open(I)I (depth 8)
theorem mm_own_244 : mm_own 244 = 12 := rfl
def mp_244_15 (L : Nat) (xs : Nat → Int32) (d : Nat) (v1 : Int32) (M : mm_M) (o : mm_E) : Prop := mm_Runs L xs d 244 (15, [some (.ref 84), some (.int v1)], [.ref 84], M) o
def mp_244_16 (L : Nat) (xs : Nat → Int32) (d : Nat) (v1 : Int32) (s1 : Int32) (M : mm_M) (o : mm_E) : Prop := mm_Runs L xs d 244 (16, [some (.ref 84), some (.int v1)], [.int s1, .ref 84], M) o
def mp_244_221 (L : Nat) (xs : Nat → Int32) (d : Nat) (M : mm_M) (o : mm_E) : Prop := ∀ z1 : Option Value, mm_Runs L xs d 244 (221, [some (.ref 84), z1], [], M) o
noncomputable def mf_244_j221 (M : mm_M) : mm_O Int32 := if (M.1 84 7) = 0 then (some (.inl (M.1 84 4), M)) else (some (.inl ((-1 : Int32) - (M.1 84 5)), M))
set_option maxRecDepth 8000 in
set_option maxHeartbeats 4000000 in
theorem ms_244_j221 {L : Nat} {xs : Nat → Int32} {d : Nat} (hd : 8 ≤ d) {M : mm_M} {q : (Int32 ⊕ Nat) × mm_M} {o : mm_E} (h : mf_244_j221 M = some q) (hA : mm_A (mm_Kr mm_wi) q o) : mp_244_221 L xs d M o := by
  unfold mf_244_j221 at h
  obtain ⟨d, rfl⟩ := mm_d1 (n := 7) hd
  intro z1
  show mm_Runs L xs (d + 1) 244 (221, [some (.ref 84), z1], [], M) o
  refine mm_Runs.seq (l := [(221, .aload_n 0, 1), (222, .getfield 154, 3)]) (S2 := (225, [some (.ref 84), z1], [.int (M.1 84 7)], M)) (by decide +kernel) (hO := mm_own_244) rfl ?_
  refine mm_R_zeq (t := 237) rfl rfl rfl (fun hc => ?_) (fun hc => ?_)
  · replace h := mm_ip hc h
    refine mm_Runs.seq (l := [(237, .aload_n 0, 1), (238, .getfield 98, 3)]) (S2 := (241, [some (.ref 84), z1], [.int (M.1 84 4)], M)) (by decide +kernel) (hO := mm_own_244) rfl ?_
    cases h
    exact mm_R_reti rfl rfl hA
  · replace h := mm_iq hc h
    refine mm_Runs.seq (l := [(228, .iconst (-1), 1), (229, .aload_n 0, 1), (230, .getfield 101, 3), (233, .isub, 1), (234, .goto 7, 3)]) (S2 := (241, [some (.ref 84), z1], [.int ((-1 : Int32) - (M.1 84 5))], M)) (by decide +kernel) (hO := mm_own_244) rfl ?_
    cases h
    exact mm_R_reti rfl rfl hA
noncomputable def mf_244_j16 (v1 : Int32) (s1 : Int32) (M : mm_M) : mm_O Int32 := mm_B (mf_174 s1 M) (fun r1 M2 => if r1 = 0 then (some (.inl (0 : Int32), M2)) else (if v1 = (0 : Int32) then (mm_B (mf_214 (mm_pi (mm_pi (mm_pi (mm_pi (mm_pi (mm_pi (mm_pi (mm_pi (mm_pi (mm_pi M2 84 5 (0 : Int32)) 84 6 (1000000000 : Int32)) 84 7 (0 : Int32)) 84 4 (0 : Int32)) 84 8 (0 : Int32)) 84 9 (0 : Int32)) 84 10 (0 : Int32)) 84 11 (0 : Int32)) 84 12 (0 : Int32)) 84 15 (0 : Int32))) (fun _ M3 => mf_244_j221 M3)) else if v1 = (1 : Int32) then (mm_B (mf_203 (65536 : Int32) (mm_pi (mm_pi (mm_pi (mm_pi (mm_pi (mm_pi (mm_pi (mm_pi (mm_pi (mm_pi M2 84 5 (0 : Int32)) 84 6 (1000000000 : Int32)) 84 7 (0 : Int32)) 84 4 (0 : Int32)) 84 8 (0 : Int32)) 84 9 (0 : Int32)) 84 10 (0 : Int32)) 84 11 (0 : Int32)) 84 12 (0 : Int32)) 84 15 (0 : Int32))) (fun _ M4 => mf_244_j221 M4)) else if v1 = (2 : Int32) then (mm_B (mf_210 (mm_pi (mm_pi (mm_pi (mm_pi (mm_pi (mm_pi (mm_pi (mm_pi (mm_pi (mm_pi M2 84 5 (0 : Int32)) 84 6 (1000000000 : Int32)) 84 7 (0 : Int32)) 84 4 (0 : Int32)) 84 8 (0 : Int32)) 84 9 (0 : Int32)) 84 10 (0 : Int32)) 84 11 (0 : Int32)) 84 12 (0 : Int32)) 84 15 (0 : Int32))) (fun _ M5 => mf_244_j221 M5)) else if v1 = (3 : Int32) then (mm_B (mf_212 (mm_pi (mm_pi (mm_pi (mm_pi (mm_pi (mm_pi (mm_pi (mm_pi (mm_pi (mm_pi M2 84 5 (0 : Int32)) 84 6 (1000000000 : Int32)) 84 7 (0 : Int32)) 84 4 (0 : Int32)) 84 8 (0 : Int32)) 84 9 (0 : Int32)) 84 10 (0 : Int32)) 84 11 (0 : Int32)) 84 12 (0 : Int32)) 84 15 (0 : Int32))) (fun _ M6 => mf_244_j221 M6)) else if v1 = (4 : Int32) then (mm_B (mf_216 (mm_pi (mm_pi (mm_pi (mm_pi (mm_pi (mm_pi (mm_pi (mm_pi (mm_pi (mm_pi M2 84 5 (0 : Int32)) 84 6 (1000000000 : Int32)) 84 7 (0 : Int32)) 84 4 (0 : Int32)) 84 8 (0 : Int32)) 84 9 (0 : Int32)) 84 10 (0 : Int32)) 84 11 (0 : Int32)) 84 12 (0 : Int32)) 84 15 (0 : Int32))) (fun _ M7 => mf_244_j221 M7)) else if v1 = (5 : Int32) then (mm_B (mf_215 (8 : Int32) (1 : Int32) (mm_pi (mm_pi (mm_pi (mm_pi (mm_pi (mm_pi (mm_pi (mm_pi (mm_pi (mm_pi (mm_pi M2 84 5 (0 : Int32)) 84 6 (1000000000 : Int32)) 84 7 (0 : Int32)) 84 4 (0 : Int32)) 84 8 (0 : Int32)) 84 9 (0 : Int32)) 84 10 (0 : Int32)) 84 11 (0 : Int32)) 84 12 (0 : Int32)) 84 15 (0 : Int32)) 84 13 (1 : Int32))) (fun _ M8 => mf_244_j221 M8)) else if v1 = (6 : Int32) then (mm_B (mf_218 (M2.1 84 2) (0 : Int32) (mm_pi (mm_pi (mm_pi (mm_pi (mm_pi (mm_pi (mm_pi (mm_pi (mm_pi (mm_pi M2 84 5 (0 : Int32)) 84 6 (1000000000 : Int32)) 84 7 (0 : Int32)) 84 4 (0 : Int32)) 84 8 (0 : Int32)) 84 9 (0 : Int32)) 84 10 (0 : Int32)) 84 11 (0 : Int32)) 84 12 (0 : Int32)) 84 15 (0 : Int32))) (fun _ M9 => mf_244_j221 M9)) else if v1 = (7 : Int32) then (mm_B (mf_219 (mm_pi (mm_pi (mm_pi (mm_pi (mm_pi (mm_pi (mm_pi (mm_pi (mm_pi (mm_pi M2 84 5 (0 : Int32)) 84 6 (1000000000 : Int32)) 84 7 (0 : Int32)) 84 4 (0 : Int32)) 84 8 (0 : Int32)) 84 9 (0 : Int32)) 84 10 (0 : Int32)) 84 11 (0 : Int32)) 84 12 (0 : Int32)) 84 15 (0 : Int32))) (fun _ M10 => mf_244_j221 M10)) else if v1 = (8 : Int32) then (mm_B (mf_221 (mm_pi (mm_pi (mm_pi (mm_pi (mm_pi (mm_pi (mm_pi (mm_pi (mm_pi (mm_pi M2 84 5 (0 : Int32)) 84 6 (1000000000 : Int32)) 84 7 (0 : Int32)) 84 4 (0 : Int32)) 84 8 (0 : Int32)) 84 9 (0 : Int32)) 84 10 (0 : Int32)) 84 11 (0 : Int32)) 84 12 (0 : Int32)) 84 15 (0 : Int32))) (fun _ M11 => mf_244_j221 M11)) else if v1 = (9 : Int32) then (mm_B (mf_223 (mm_pi (mm_pi (mm_pi (mm_pi (mm_pi (mm_pi (mm_pi (mm_pi (mm_pi (mm_pi M2 84 5 (0 : Int32)) 84 6 (1000000000 : Int32)) 84 7 (0 : Int32)) 84 4 (0 : Int32)) 84 8 (0 : Int32)) 84 9 (0 : Int32)) 84 10 (0 : Int32)) 84 11 (0 : Int32)) 84 12 (0 : Int32)) 84 15 (0 : Int32))) (fun _ M12 => mf_244_j221 M12)) else (mm_B (mf_237 (mm_pi (mm_pi (mm_pi (mm_pi (mm_pi (mm_pi (mm_pi (mm_pi (mm_pi (mm_pi M2 84 5 (0 : Int32)) 84 6 (1000000000 : Int32)) 84 7 (0 : Int32)) 84 4 (0 : Int32)) 84 8 (0 : Int32)) 84 9 (0 : Int32)) 84 10 (0 : Int32)) 84 11 (0 : Int32)) 84 12 (0 : Int32)) 84 15 (0 : Int32))) (fun _ M13 => mf_244_j221 M13))))
set_option maxRecDepth 8000 in
set_option maxHeartbeats 4000000 in
theorem ms_244_j16 {L : Nat} {xs : Nat → Int32} {d : Nat} (hd : 8 ≤ d) {v1 : Int32} {s1 : Int32} {M : mm_M} {q : (Int32 ⊕ Nat) × mm_M} {o : mm_E} (h : mf_244_j16 v1 s1 M = some q) (hA : mm_A (mm_Kr mm_wi) q o) : mp_244_16 L xs d v1 s1 M o := by
  unfold mf_244_j16 at h
  obtain ⟨d, rfl⟩ := mm_d1 (n := 7) hd
  show mm_Runs L xs (d + 1) 244 (16, [some (.ref 84), some (.int v1)], [.int s1, .ref 84], M) o
  refine mm_R_call (v := mm_wi) h hA (k2 := 174) (as := [.ref 84, .int s1]) (r := []) rfl (fun _ => rfl) (fun q hq o ho => ms_174 (by omega) hq ho) (fun r1 M2 h => ?_)
  show mm_Runs L xs (d + 1) 244 (19, [some (.ref 84), some (.int v1)], [.int r1], M2) o
  refine mm_R_zne (t := 24) rfl rfl rfl (fun hc => ?_) (fun hc => ?_)
  · replace h := mm_ip hc h
    refine mm_Runs.seq (l := [(22, .iconst 0, 1)]) (S2 := (23, [some (.ref 84), some (.int v1)], [.int (0 : Int32)], M2)) (by decide +kernel) (hO := mm_own_244) rfl ?_
    cases h
    exact mm_R_reti rfl rfl hA
  · replace h := mm_iq hc h
    refine mm_Runs.seq (l := [(24, .aload_n 0, 1), (25, .iconst 0, 1), (26, .putfield 101, 3), (29, .aload_n 0, 1), (30, .ldc_w 271, 3), (33, .putfield 158, 3), (36, .aload_n 0, 1), (37, .iconst 0, 1), (38, .putfield 154, 3), (41, .aload_n 0, 1), (42, .iconst 0, 1), (43, .putfield 98, 3), (46, .aload_n 0, 1), (47, .iconst 0, 1), (48, .putfield 104, 3), (51, .aload_n 0, 1), (52, .iconst 0, 1), (53, .putfield 107, 3), (56, .aload_n 0, 1), (57, .iconst 0, 1), (58, .putfield 110, 3), (61, .aload_n 0, 1), (62, .iconst 0, 1), (63, .putfield 113, 3), (66, .aload_n 0, 1), (67, .iconst 0, 1), (68, .putfield 116, 3), (71, .aload_n 0, 1), (72, .iconst 0, 1), (73, .putfield 172, 3), (76, .iload_n 1, 1)]) (S2 := (77, [some (.ref 84), some (.int v1)], [.int v1], (mm_pi (mm_pi (mm_pi (mm_pi (mm_pi (mm_pi (mm_pi (mm_pi (mm_pi (mm_pi M2 84 5 (0 : Int32)) 84 6 (1000000000 : Int32)) 84 7 (0 : Int32)) 84 4 (0 : Int32)) 84 8 (0 : Int32)) 84 9 (0 : Int32)) 84 10 (0 : Int32)) 84 11 (0 : Int32)) 84 12 (0 : Int32)) 84 15 (0 : Int32)))) (by decide +kernel) (hO := mm_own_244) rfl ?_
    by_cases hc0 : v1 = (0 : Int32)
    · replace h := mm_ip hc0 h
      refine mm_R_sw (t := 132) rfl rfl rfl (by rw [hc0]; rfl) ?_
      refine mm_Runs.seq (l := [(132, .aload_n 0, 1)]) (S2 := (133, [some (.ref 84), some (.int v1)], [.ref 84], (mm_pi (mm_pi (mm_pi (mm_pi (mm_pi (mm_pi (mm_pi (mm_pi (mm_pi (mm_pi M2 84 5 (0 : Int32)) 84 6 (1000000000 : Int32)) 84 7 (0 : Int32)) 84 4 (0 : Int32)) 84 8 (0 : Int32)) 84 9 (0 : Int32)) 84 10 (0 : Int32)) 84 11 (0 : Int32)) 84 12 (0 : Int32)) 84 15 (0 : Int32)))) (by decide +kernel) (hO := mm_own_244) rfl ?_
      refine mm_R_call (v := mm_wv) h hA (k2 := 214) (as := [.ref 84]) (r := []) rfl (fun _ => rfl) (fun q hq o ho => ms_214 (by omega) hq ho) (fun _ M3 h => ?_)
      show mm_Runs L xs (d + 1) 244 (136, [some (.ref 84), some (.int v1)], [], M3) o
      refine mm_Runs.seq (l := [(136, .goto 85, 3)]) (S2 := (221, [some (.ref 84), some (.int v1)], [], M3)) (by decide +kernel) (hO := mm_own_244) rfl ?_
      exact (ms_244_j221 hd h hA : mp_244_221 L xs (d + 1) M3 o) (some (.int v1))
    replace h := mm_iq hc0 h
    by_cases hc1 : v1 = (1 : Int32)
    · replace h := mm_ip hc1 h
      refine mm_R_sw (t := 139) rfl rfl rfl (by rw [hc1]; rfl) ?_
      refine mm_Runs.seq (l := [(139, .aload_n 0, 1), (140, .ldc 122, 2)]) (S2 := (142, [some (.ref 84), some (.int v1)], [.int (65536 : Int32), .ref 84], (mm_pi (mm_pi (mm_pi (mm_pi (mm_pi (mm_pi (mm_pi (mm_pi (mm_pi (mm_pi M2 84 5 (0 : Int32)) 84 6 (1000000000 : Int32)) 84 7 (0 : Int32)) 84 4 (0 : Int32)) 84 8 (0 : Int32)) 84 9 (0 : Int32)) 84 10 (0 : Int32)) 84 11 (0 : Int32)) 84 12 (0 : Int32)) 84 15 (0 : Int32)))) (by decide +kernel) (hO := mm_own_244) rfl ?_
      refine mm_R_call (v := mm_wv) h hA (k2 := 203) (as := [.ref 84, .int (65536 : Int32)]) (r := []) rfl (fun _ => rfl) (fun q hq o ho => ms_203 (by omega) hq ho) (fun _ M4 h => ?_)
      show mm_Runs L xs (d + 1) 244 (145, [some (.ref 84), some (.int v1)], [], M4) o
      refine mm_Runs.seq (l := [(145, .goto 76, 3)]) (S2 := (221, [some (.ref 84), some (.int v1)], [], M4)) (by decide +kernel) (hO := mm_own_244) rfl ?_
      exact (ms_244_j221 hd h hA : mp_244_221 L xs (d + 1) M4 o) (some (.int v1))
    replace h := mm_iq hc1 h
    by_cases hc2 : v1 = (2 : Int32)
    · replace h := mm_ip hc2 h
      refine mm_R_sw (t := 148) rfl rfl rfl (by rw [hc2]; rfl) ?_
      refine mm_Runs.seq (l := [(148, .aload_n 0, 1)]) (S2 := (149, [some (.ref 84), some (.int v1)], [.ref 84], (mm_pi (mm_pi (mm_pi (mm_pi (mm_pi (mm_pi (mm_pi (mm_pi (mm_pi (mm_pi M2 84 5 (0 : Int32)) 84 6 (1000000000 : Int32)) 84 7 (0 : Int32)) 84 4 (0 : Int32)) 84 8 (0 : Int32)) 84 9 (0 : Int32)) 84 10 (0 : Int32)) 84 11 (0 : Int32)) 84 12 (0 : Int32)) 84 15 (0 : Int32)))) (by decide +kernel) (hO := mm_own_244) rfl ?_
      refine mm_R_call (v := mm_wv) h hA (k2 := 210) (as := [.ref 84]) (r := []) rfl (fun _ => rfl) (fun q hq o ho => ms_210 (by omega) hq ho) (fun _ M5 h => ?_)
      show mm_Runs L xs (d + 1) 244 (152, [some (.ref 84), some (.int v1)], [], M5) o
      refine mm_Runs.seq (l := [(152, .goto 69, 3)]) (S2 := (221, [some (.ref 84), some (.int v1)], [], M5)) (by decide +kernel) (hO := mm_own_244) rfl ?_
      exact (ms_244_j221 hd h hA : mp_244_221 L xs (d + 1) M5 o) (some (.int v1))
    replace h := mm_iq hc2 h
    by_cases hc3 : v1 = (3 : Int32)
    · replace h := mm_ip hc3 h
      refine mm_R_sw (t := 155) rfl rfl rfl (by rw [hc3]; rfl) ?_
      refine mm_Runs.seq (l := [(155, .aload_n 0, 1)]) (S2 := (156, [some (.ref 84), some (.int v1)], [.ref 84], (mm_pi (mm_pi (mm_pi (mm_pi (mm_pi (mm_pi (mm_pi (mm_pi (mm_pi (mm_pi M2 84 5 (0 : Int32)) 84 6 (1000000000 : Int32)) 84 7 (0 : Int32)) 84 4 (0 : Int32)) 84 8 (0 : Int32)) 84 9 (0 : Int32)) 84 10 (0 : Int32)) 84 11 (0 : Int32)) 84 12 (0 : Int32)) 84 15 (0 : Int32)))) (by decide +kernel) (hO := mm_own_244) rfl ?_
      refine mm_R_call (v := mm_wv) h hA (k2 := 212) (as := [.ref 84]) (r := []) rfl (fun _ => rfl) (fun q hq o ho => ms_212 (by omega) hq ho) (fun _ M6 h => ?_)
      show mm_Runs L xs (d + 1) 244 (159, [some (.ref 84), some (.int v1)], [], M6) o
      refine mm_Runs.seq (l := [(159, .goto 62, 3)]) (S2 := (221, [some (.ref 84), some (.int v1)], [], M6)) (by decide +kernel) (hO := mm_own_244) rfl ?_
      exact (ms_244_j221 hd h hA : mp_244_221 L xs (d + 1) M6 o) (some (.int v1))
    replace h := mm_iq hc3 h
    by_cases hc4 : v1 = (4 : Int32)
    · replace h := mm_ip hc4 h
      refine mm_R_sw (t := 162) rfl rfl rfl (by rw [hc4]; rfl) ?_
      refine mm_Runs.seq (l := [(162, .aload_n 0, 1)]) (S2 := (163, [some (.ref 84), some (.int v1)], [.ref 84], (mm_pi (mm_pi (mm_pi (mm_pi (mm_pi (mm_pi (mm_pi (mm_pi (mm_pi (mm_pi M2 84 5 (0 : Int32)) 84 6 (1000000000 : Int32)) 84 7 (0 : Int32)) 84 4 (0 : Int32)) 84 8 (0 : Int32)) 84 9 (0 : Int32)) 84 10 (0 : Int32)) 84 11 (0 : Int32)) 84 12 (0 : Int32)) 84 15 (0 : Int32)))) (by decide +kernel) (hO := mm_own_244) rfl ?_
      refine mm_R_call (v := mm_wv) h hA (k2 := 216) (as := [.ref 84]) (r := []) rfl (fun _ => rfl) (fun q hq o ho => ms_216 (by omega) hq ho) (fun _ M7 h => ?_)
      show mm_Runs L xs (d + 1) 244 (166, [some (.ref 84), some (.int v1)], [], M7) o
      refine mm_Runs.seq (l := [(166, .goto 55, 3)]) (S2 := (221, [some (.ref 84), some (.int v1)], [], M7)) (by decide +kernel) (hO := mm_own_244) rfl ?_
      exact (ms_244_j221 hd h hA : mp_244_221 L xs (d + 1) M7 o) (some (.int v1))
    replace h := mm_iq hc4 h
    by_cases hc5 : v1 = (5 : Int32)
    · replace h := mm_ip hc5 h
      refine mm_R_sw (t := 169) rfl rfl rfl (by rw [hc5]; rfl) ?_
      refine mm_Runs.seq (l := [(169, .aload_n 0, 1), (170, .iconst 1, 1), (171, .putfield 178, 3), (174, .aload_n 0, 1), (175, .bipush 8, 2), (177, .iconst 1, 1)]) (S2 := (178, [some (.ref 84), some (.int v1)], [.int (1 : Int32), .int (8 : Int32), .ref 84], (mm_pi (mm_pi (mm_pi (mm_pi (mm_pi (mm_pi (mm_pi (mm_pi (mm_pi (mm_pi (mm_pi M2 84 5 (0 : Int32)) 84 6 (1000000000 : Int32)) 84 7 (0 : Int32)) 84 4 (0 : Int32)) 84 8 (0 : Int32)) 84 9 (0 : Int32)) 84 10 (0 : Int32)) 84 11 (0 : Int32)) 84 12 (0 : Int32)) 84 15 (0 : Int32)) 84 13 (1 : Int32)))) (by decide +kernel) (hO := mm_own_244) rfl ?_
      refine mm_R_call (v := mm_wv) h hA (k2 := 215) (as := [.ref 84, .int (8 : Int32), .int (1 : Int32)]) (r := []) rfl (fun _ => rfl) (fun q hq o ho => ms_215 (by omega) hq ho) (fun _ M8 h => ?_)
      show mm_Runs L xs (d + 1) 244 (181, [some (.ref 84), some (.int v1)], [], M8) o
      refine mm_Runs.seq (l := [(181, .goto 40, 3)]) (S2 := (221, [some (.ref 84), some (.int v1)], [], M8)) (by decide +kernel) (hO := mm_own_244) rfl ?_
      exact (ms_244_j221 hd h hA : mp_244_221 L xs (d + 1) M8 o) (some (.int v1))
    replace h := mm_iq hc5 h
    by_cases hc6 : v1 = (6 : Int32)
    · replace h := mm_ip hc6 h
      refine mm_R_sw (t := 184) rfl rfl rfl (by rw [hc6]; rfl) ?_
      refine mm_Runs.seq (l := [(184, .aload_n 0, 1), (185, .aload_n 0, 1), (186, .getfield 91, 3), (189, .iconst 0, 1)]) (S2 := (190, [some (.ref 84), some (.int v1)], [.int (0 : Int32), .int (M2.1 84 2), .ref 84], (mm_pi (mm_pi (mm_pi (mm_pi (mm_pi (mm_pi (mm_pi (mm_pi (mm_pi (mm_pi M2 84 5 (0 : Int32)) 84 6 (1000000000 : Int32)) 84 7 (0 : Int32)) 84 4 (0 : Int32)) 84 8 (0 : Int32)) 84 9 (0 : Int32)) 84 10 (0 : Int32)) 84 11 (0 : Int32)) 84 12 (0 : Int32)) 84 15 (0 : Int32)))) (by decide +kernel) (hO := mm_own_244) rfl ?_
      refine mm_R_call (v := mm_wv) h hA (k2 := 218) (as := [.ref 84, .int (M2.1 84 2), .int (0 : Int32)]) (r := []) rfl (fun _ => rfl) (fun q hq o ho => ms_218 (by omega) hq ho) (fun _ M9 h => ?_)
      show mm_Runs L xs (d + 1) 244 (193, [some (.ref 84), some (.int v1)], [], M9) o
      refine mm_Runs.seq (l := [(193, .goto 28, 3)]) (S2 := (221, [some (.ref 84), some (.int v1)], [], M9)) (by decide +kernel) (hO := mm_own_244) rfl ?_
      exact (ms_244_j221 hd h hA : mp_244_221 L xs (d + 1) M9 o) (some (.int v1))
    replace h := mm_iq hc6 h
    by_cases hc7 : v1 = (7 : Int32)
    · replace h := mm_ip hc7 h
      refine mm_R_sw (t := 196) rfl rfl rfl (by rw [hc7]; rfl) ?_
      refine mm_Runs.seq (l := [(196, .aload_n 0, 1)]) (S2 := (197, [some (.ref 84), some (.int v1)], [.ref 84], (mm_pi (mm_pi (mm_pi (mm_pi (mm_pi (mm_pi (mm_pi (mm_pi (mm_pi (mm_pi M2 84 5 (0 : Int32)) 84 6 (1000000000 : Int32)) 84 7 (0 : Int32)) 84 4 (0 : Int32)) 84 8 (0 : Int32)) 84 9 (0 : Int32)) 84 10 (0 : Int32)) 84 11 (0 : Int32)) 84 12 (0 : Int32)) 84 15 (0 : Int32)))) (by decide +kernel) (hO := mm_own_244) rfl ?_
      refine mm_R_call (v := mm_wv) h hA (k2 := 219) (as := [.ref 84]) (r := []) rfl (fun _ => rfl) (fun q hq o ho => ms_219 (by omega) hq ho) (fun _ M10 h => ?_)
      show mm_Runs L xs (d + 1) 244 (200, [some (.ref 84), some (.int v1)], [], M10) o
      refine mm_Runs.seq (l := [(200, .goto 21, 3)]) (S2 := (221, [some (.ref 84), some (.int v1)], [], M10)) (by decide +kernel) (hO := mm_own_244) rfl ?_
      exact (ms_244_j221 hd h hA : mp_244_221 L xs (d + 1) M10 o) (some (.int v1))
    replace h := mm_iq hc7 h
    by_cases hc8 : v1 = (8 : Int32)
    · replace h := mm_ip hc8 h
      refine mm_R_sw (t := 203) rfl rfl rfl (by rw [hc8]; rfl) ?_
      refine mm_Runs.seq (l := [(203, .aload_n 0, 1)]) (S2 := (204, [some (.ref 84), some (.int v1)], [.ref 84], (mm_pi (mm_pi (mm_pi (mm_pi (mm_pi (mm_pi (mm_pi (mm_pi (mm_pi (mm_pi M2 84 5 (0 : Int32)) 84 6 (1000000000 : Int32)) 84 7 (0 : Int32)) 84 4 (0 : Int32)) 84 8 (0 : Int32)) 84 9 (0 : Int32)) 84 10 (0 : Int32)) 84 11 (0 : Int32)) 84 12 (0 : Int32)) 84 15 (0 : Int32)))) (by decide +kernel) (hO := mm_own_244) rfl ?_
      refine mm_R_call (v := mm_wv) h hA (k2 := 221) (as := [.ref 84]) (r := []) rfl (fun _ => rfl) (fun q hq o ho => ms_221 (by omega) hq ho) (fun _ M11 h => ?_)
      show mm_Runs L xs (d + 1) 244 (207, [some (.ref 84), some (.int v1)], [], M11) o
      refine mm_Runs.seq (l := [(207, .goto 14, 3)]) (S2 := (221, [some (.ref 84), some (.int v1)], [], M11)) (by decide +kernel) (hO := mm_own_244) rfl ?_
      exact (ms_244_j221 hd h hA : mp_244_221 L xs (d + 1) M11 o) (some (.int v1))
    replace h := mm_iq hc8 h
    by_cases hc9 : v1 = (9 : Int32)
    · replace h := mm_ip hc9 h
      refine mm_R_sw (t := 210) rfl rfl rfl (by rw [hc9]; rfl) ?_
      refine mm_Runs.seq (l := [(210, .aload_n 0, 1)]) (S2 := (211, [some (.ref 84), some (.int v1)], [.ref 84], (mm_pi (mm_pi (mm_pi (mm_pi (mm_pi (mm_pi (mm_pi (mm_pi (mm_pi (mm_pi M2 84 5 (0 : Int32)) 84 6 (1000000000 : Int32)) 84 7 (0 : Int32)) 84 4 (0 : Int32)) 84 8 (0 : Int32)) 84 9 (0 : Int32)) 84 10 (0 : Int32)) 84 11 (0 : Int32)) 84 12 (0 : Int32)) 84 15 (0 : Int32)))) (by decide +kernel) (hO := mm_own_244) rfl ?_
      refine mm_R_call (v := mm_wv) h hA (k2 := 223) (as := [.ref 84]) (r := []) rfl (fun _ => rfl) (fun q hq o ho => ms_223 (by omega) hq ho) (fun _ M12 h => ?_)
      show mm_Runs L xs (d + 1) 244 (214, [some (.ref 84), some (.int v1)], [], M12) o
      refine mm_Runs.seq (l := [(214, .goto 7, 3)]) (S2 := (221, [some (.ref 84), some (.int v1)], [], M12)) (by decide +kernel) (hO := mm_own_244) rfl ?_
      exact (ms_244_j221 hd h hA : mp_244_221 L xs (d + 1) M12 o) (some (.int v1))
    replace h := mm_iq hc9 h
    have e0 := mm_i32 (n := 0) hc0 (by decide) (by decide)
    have e1 := mm_i32 (n := 1) hc1 (by decide) (by decide)
    have e2 := mm_i32 (n := 2) hc2 (by decide) (by decide)
    have e3 := mm_i32 (n := 3) hc3 (by decide) (by decide)
    have e4 := mm_i32 (n := 4) hc4 (by decide) (by decide)
    have e5 := mm_i32 (n := 5) hc5 (by decide) (by decide)
    have e6 := mm_i32 (n := 6) hc6 (by decide) (by decide)
    have e7 := mm_i32 (n := 7) hc7 (by decide) (by decide)
    have e8 := mm_i32 (n := 8) hc8 (by decide) (by decide)
    have e9 := mm_i32 (n := 9) hc9 (by decide) (by decide)
    refine mm_R_sw (t := 217) rfl rfl rfl (mm_tsd (by omega) rfl rfl) ?_
    refine mm_Runs.seq (l := [(217, .aload_n 0, 1)]) (S2 := (218, [some (.ref 84), some (.int v1)], [.ref 84], (mm_pi (mm_pi (mm_pi (mm_pi (mm_pi (mm_pi (mm_pi (mm_pi (mm_pi (mm_pi M2 84 5 (0 : Int32)) 84 6 (1000000000 : Int32)) 84 7 (0 : Int32)) 84 4 (0 : Int32)) 84 8 (0 : Int32)) 84 9 (0 : Int32)) 84 10 (0 : Int32)) 84 11 (0 : Int32)) 84 12 (0 : Int32)) 84 15 (0 : Int32)))) (by decide +kernel) (hO := mm_own_244) rfl ?_
    refine mm_R_call (v := mm_wv) h hA (k2 := 237) (as := [.ref 84]) (r := []) rfl (fun _ => rfl) (fun q hq o ho => ms_237 (by omega) hq ho) (fun _ M13 h => ?_)
    show mm_Runs L xs (d + 1) 244 (221, [some (.ref 84), some (.int v1)], [], M13) o
    exact (ms_244_j221 hd h hA : mp_244_221 L xs (d + 1) M13 o) (some (.int v1))
noncomputable def mf_244_j15 (v1 : Int32) (M : mm_M) : mm_O Int32 := mf_244_j16 v1 (0 : Int32) M
set_option maxRecDepth 8000 in
set_option maxHeartbeats 4000000 in
theorem ms_244_j15 {L : Nat} {xs : Nat → Int32} {d : Nat} (hd : 8 ≤ d) {v1 : Int32} {M : mm_M} {q : (Int32 ⊕ Nat) × mm_M} {o : mm_E} (h : mf_244_j15 v1 M = some q) (hA : mm_A (mm_Kr mm_wi) q o) : mp_244_15 L xs d v1 M o := by
  unfold mf_244_j15 at h
  obtain ⟨d, rfl⟩ := mm_d1 (n := 7) hd
  show mm_Runs L xs (d + 1) 244 (15, [some (.ref 84), some (.int v1)], [.ref 84], M) o
  refine mm_Runs.seq (l := [(15, .iconst 0, 1)]) (S2 := (16, [some (.ref 84), some (.int v1)], [.int (0 : Int32), .ref 84], M)) (by decide +kernel) (hO := mm_own_244) rfl ?_
  exact (ms_244_j16 hd h hA : mp_244_16 L xs (d + 1) v1 (0 : Int32) M o)
noncomputable def mf_244 (v1 : Int32) (M : mm_M) : mm_O Int32 := if v1 < 0 then (mf_244_j15 v1 M) else (if (10 : Int32) < v1 then (mf_244_j15 v1 M) else (mf_244_j16 v1 (1 : Int32) M))
set_option maxRecDepth 8000 in
set_option maxHeartbeats 4000000 in
theorem ms_244 {L : Nat} {xs : Nat → Int32} {d : Nat} (hd : 8 ≤ d) {v1 : Int32} {M : mm_M} {q : (Int32 ⊕ Nat) × mm_M} {o : mm_E} (h : mf_244 v1 M = some q) (hA : mm_A (mm_Kr mm_wi) q o) : mm_Runs L xs d 244 (0, mm_ent (mm_ml 244) [.ref 84, .int v1], [], M) o := by
  unfold mf_244 at h
  obtain ⟨d, rfl⟩ := mm_d1 (n := 7) hd
  show mm_Runs L xs (d + 1) 244 (0, [some (.ref 84), some (.int v1)], [], M) o
  refine mm_Runs.seq (l := [(0, .aload_n 0, 1), (1, .iload_n 1, 1)]) (S2 := (2, [some (.ref 84), some (.int v1)], [.int v1, .ref 84], M)) (by decide +kernel) (hO := mm_own_244) rfl ?_
  refine mm_R_zlt (t := 15) rfl rfl rfl (fun hc => ?_) (fun hc => ?_)
  · replace h := mm_ip hc h
    exact (ms_244_j15 hd h hA : mp_244_15 L xs (d + 1) v1 M o)
  · replace h := mm_iq hc h
    refine mm_Runs.seq (l := [(5, .iload_n 1, 1), (6, .bipush 10, 2)]) (S2 := (8, [some (.ref 84), some (.int v1)], [.int (10 : Int32), .int v1, .ref 84], M)) (by decide +kernel) (hO := mm_own_244) rfl ?_
    refine mm_R_igt (t := 15) rfl rfl rfl (fun hc => ?_) (fun hc => ?_)
    · replace h := mm_ip hc h
      exact (ms_244_j15 hd h hA : mp_244_15 L xs (d + 1) v1 M o)
    · replace h := mm_iq hc h
      refine mm_Runs.seq (l := [(11, .iconst 1, 1), (12, .goto 4, 3)]) (S2 := (16, [some (.ref 84), some (.int v1)], [.int (1 : Int32), .ref 84], M)) (by decide +kernel) (hO := mm_own_244) rfl ?_
      exact (ms_244_j16 hd h hA : mp_244_16 L xs (d + 1) v1 (1 : Int32) M o)
-- 18: PlainPacks.told(I)I (depth 7)
theorem mm_own_18 : mm_own 18 = 0 := rfl
noncomputable def mf_18 (v1 : Int32) (M : mm_M) : mm_O Int32 := if v1 = (0 : Int32) then (some (.inl (M.1 1 2), M)) else if v1 = (1 : Int32) then (some (.inl (M.1 3 2), M)) else if v1 = (2 : Int32) then (some (.inl (M.1 3 3), M)) else if v1 = (3 : Int32) then (some (.inl (M.1 3 4), M)) else if v1 = (4 : Int32) then (some (.inl (M.1 3 5), M)) else if v1 = (5 : Int32) then (some (.inl (M.1 3 6), M)) else (some (.inr 2, mm_th M))
set_option maxRecDepth 8000 in
set_option maxHeartbeats 4000000 in
theorem ms_18 {L : Nat} {xs : Nat → Int32} {d : Nat} (hd : 7 ≤ d) {v1 : Int32} {M : mm_M} {q : (Int32 ⊕ Nat) × mm_M} {o : mm_E} (h : mf_18 v1 M = some q) (hA : mm_A (mm_Kr mm_wi) q o) : mm_Runs L xs d 18 (0, mm_ent (mm_ml 18) [.ref 0, .int v1], [], M) o := by
  unfold mf_18 at h
  show mm_Runs L xs (d) 18 (0, [some (.ref 0), some (.int v1)], [], M) o
  refine mm_Runs.seq (l := [(0, .iload_n 1, 1)]) (S2 := (1, [some (.ref 0), some (.int v1)], [.int v1], M)) (by decide +kernel) (hO := mm_own_18) rfl ?_
  by_cases hc0 : v1 = (0 : Int32)
  · replace h := mm_ip hc0 h
    refine mm_R_sw (t := 40) rfl rfl rfl (by rw [hc0]; rfl) ?_
    refine mm_Runs.seq (l := [(40, .aload_n 0, 1), (41, .getfield 12, 3), (44, .getfield 171, 3)]) (S2 := (47, [some (.ref 0), some (.int v1)], [.int (M.1 1 2)], M)) (by decide +kernel) (hO := mm_own_18) rfl ?_
    cases h
    exact mm_R_reti rfl rfl hA
  replace h := mm_iq hc0 h
  by_cases hc1 : v1 = (1 : Int32)
  · replace h := mm_ip hc1 h
    refine mm_R_sw (t := 48) rfl rfl rfl (by rw [hc1]; rfl) ?_
    refine mm_Runs.seq (l := [(48, .aload_n 0, 1), (49, .getfield 19, 3), (52, .getfield 174, 3)]) (S2 := (55, [some (.ref 0), some (.int v1)], [.int (M.1 3 2)], M)) (by decide +kernel) (hO := mm_own_18) rfl ?_
    cases h
    exact mm_R_reti rfl rfl hA
  replace h := mm_iq hc1 h
  by_cases hc2 : v1 = (2 : Int32)
  · replace h := mm_ip hc2 h
    refine mm_R_sw (t := 56) rfl rfl rfl (by rw [hc2]; rfl) ?_
    refine mm_Runs.seq (l := [(56, .aload_n 0, 1), (57, .getfield 19, 3), (60, .getfield 177, 3)]) (S2 := (63, [some (.ref 0), some (.int v1)], [.int (M.1 3 3)], M)) (by decide +kernel) (hO := mm_own_18) rfl ?_
    cases h
    exact mm_R_reti rfl rfl hA
  replace h := mm_iq hc2 h
  by_cases hc3 : v1 = (3 : Int32)
  · replace h := mm_ip hc3 h
    refine mm_R_sw (t := 64) rfl rfl rfl (by rw [hc3]; rfl) ?_
    refine mm_Runs.seq (l := [(64, .aload_n 0, 1), (65, .getfield 19, 3), (68, .getfield 180, 3)]) (S2 := (71, [some (.ref 0), some (.int v1)], [.int (M.1 3 4)], M)) (by decide +kernel) (hO := mm_own_18) rfl ?_
    cases h
    exact mm_R_reti rfl rfl hA
  replace h := mm_iq hc3 h
  by_cases hc4 : v1 = (4 : Int32)
  · replace h := mm_ip hc4 h
    refine mm_R_sw (t := 72) rfl rfl rfl (by rw [hc4]; rfl) ?_
    refine mm_Runs.seq (l := [(72, .aload_n 0, 1), (73, .getfield 19, 3), (76, .getfield 183, 3)]) (S2 := (79, [some (.ref 0), some (.int v1)], [.int (M.1 3 5)], M)) (by decide +kernel) (hO := mm_own_18) rfl ?_
    cases h
    exact mm_R_reti rfl rfl hA
  replace h := mm_iq hc4 h
  by_cases hc5 : v1 = (5 : Int32)
  · replace h := mm_ip hc5 h
    refine mm_R_sw (t := 80) rfl rfl rfl (by rw [hc5]; rfl) ?_
    refine mm_Runs.seq (l := [(80, .aload_n 0, 1), (81, .getfield 19, 3), (84, .getfield 186, 3)]) (S2 := (87, [some (.ref 0), some (.int v1)], [.int (M.1 3 6)], M)) (by decide +kernel) (hO := mm_own_18) rfl ?_
    cases h
    exact mm_R_reti rfl rfl hA
  replace h := mm_iq hc5 h
  have e0 := mm_i32 (n := 0) hc0 (by decide) (by decide)
  have e1 := mm_i32 (n := 1) hc1 (by decide) (by decide)
  have e2 := mm_i32 (n := 2) hc2 (by decide) (by decide)
  have e3 := mm_i32 (n := 3) hc3 (by decide) (by decide)
  have e4 := mm_i32 (n := 4) hc4 (by decide) (by decide)
  have e5 := mm_i32 (n := 5) hc5 (by decide) (by decide)
  refine mm_R_sw (t := 88) rfl rfl rfl (mm_tsd (by omega) rfl rfl) ?_
  cases h
  exact mm_R_thr rfl rfl rfl (by omega) hA
-- 5: PlainPacksLaw.told(LPlainPacks;I[J)I (depth 8)
theorem mm_own_5 : mm_own 5 = 13 := rfl
noncomputable def mf_5 (v1 : Int32) (M : mm_M) : mm_O Int32 := mm_Bc (mf_18 v1 M) (fun r1 M2 => if mm_in (0 : Int32) 1 then some (.inl (0 : Int32), (mm_pl M2 110 (0 : Int32).toNatClampNeg r1.toInt64)) else none) 2 (fun M3 => some (.inl (1 : Int32), M3))
set_option maxRecDepth 8000 in
set_option maxHeartbeats 4000000 in
theorem ms_5 {L : Nat} {xs : Nat → Int32} {d : Nat} (hd : 8 ≤ d) {v1 : Int32} {M : mm_M} {q : (Int32 ⊕ Nat) × mm_M} {o : mm_E} (h : mf_5 v1 M = some q) (hA : mm_A (mm_Kr mm_wi) q o) : mm_Runs L xs d 5 (0, mm_ent (mm_ml 5) [.ref 0, .int v1, .ref 110], [], M) o := by
  unfold mf_5 at h
  obtain ⟨d, rfl⟩ := mm_d1 (n := 7) hd
  show mm_Runs L xs (d + 1) 5 (0, [some (.ref 0), some (.int v1), some (.ref 110), none], [], M) o
  refine mm_Runs.seq (l := [(0, .aload_n 2, 1), (1, .iconst 0, 1), (2, .aload_n 0, 1), (3, .iload_n 1, 1)]) (S2 := (4, [some (.ref 0), some (.int v1), some (.ref 110), none], [.int v1, .ref 0, .int (0 : Int32), .ref 110], M)) (by decide +kernel) (hO := mm_own_5) rfl ?_
  refine mm_R_callc (v := mm_wi) (X := 2) (hh := 13) (i := 3) h hA (k2 := 18) (as := [.ref 0, .int v1]) (r := [.int (0 : Int32), .ref 110]) rfl rfl rfl (fun q hq o ho => ms_18 (by omega) hq ho) (fun r1 M2 h => ?_) (fun M3 h => ?_)
  · show mm_Runs L xs (d + 1) 5 (7, [some (.ref 0), some (.int v1), some (.ref 110), none], [.int r1, .int (0 : Int32), .ref 110], M2) o
    refine mm_Runs.seq (l := [(7, .i2l, 1)]) (S2 := (8, [some (.ref 0), some (.int v1), some (.ref 110), none], [.long r1.toInt64, .int (0 : Int32), .ref 110], M2)) (by decide +kernel) (hO := mm_own_5) rfl ?_
    obtain ⟨hb, h⟩ := mm_gd h
    refine mm_R_last rfl rfl hb ?_
    refine mm_Runs.seq (l := [(9, .goto 6, 3), (15, .iconst 0, 1)]) (S2 := (16, [some (.ref 0), some (.int v1), some (.ref 110), none], [.int (0 : Int32)], (mm_pl M2 110 (0 : Int32).toNatClampNeg r1.toInt64))) (by decide +kernel) (hO := mm_own_5) rfl ?_
    cases h
    exact mm_R_reti rfl rfl hA
  · show mm_Runs L xs (d + 1) 5 (13, [some (.ref 0), some (.int v1), some (.ref 110), none], [], M3) o
    refine mm_Runs.seq (l := [(13, .iconst 1, 1)]) (S2 := (14, [some (.ref 0), some (.int v1), some (.ref 110), none], [.int (1 : Int32)], M3)) (by decide +kernel) (hO := mm_own_5) rfl ?_
    cases h
    exact mm_R_reti rfl rfl hA
