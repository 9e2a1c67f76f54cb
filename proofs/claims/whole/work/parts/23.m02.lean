/-! M -/
-- 27: PlainPacks.wrongIf(Z)V (depth 7)
theorem mm_own_27 : mm_own 27 = 0 := rfl
noncomputable def mf_27 (v0 : Int32) (M : mm_M) : mm_O Unit := if v0 = 0 then (some (.inl (), M)) else (some (.inr 0, mm_th M))
set_option maxRecDepth 8000 in
set_option maxHeartbeats 4000000 in
theorem ms_27 {L : Nat} {xs : Nat → Int32} {d : Nat} (hd : 7 ≤ d) {v0 : Int32} {M : mm_M} {q : (Unit ⊕ Nat) × mm_M} {o : mm_E} (h : mf_27 v0 M = some q) (hA : mm_A (mm_Kr mm_wv) q o) : mm_Runs L xs d 27 (0, mm_ent (mm_ml 27) [.int v0], [], M) o := by
  unfold mf_27 at h
  show mm_Runs L xs (d) 27 (0, [some (.int v0)], [], M) o
  refine mm_Runs.seq (l := [(0, .iload_n 0, 1)]) (S2 := (1, [some (.int v0)], [.int v0], M)) (by decide +kernel) (hO := mm_own_27) rfl ?_
  refine mm_R_zeq (t := 15) rfl rfl rfl (fun hc => ?_) (fun hc => ?_)
  · replace h := mm_ip hc h
    cases h
    exact mm_R_retv rfl rfl hA
  · replace h := mm_iq hc h
    cases h
    exact mm_R_thr rfl rfl rfl (by omega) hA
-- 28: PlainPacks.crcOf([III)I (depth 0)
theorem mm_own_28 : mm_own 28 = 0 := rfl
def mp_28_5 (L : Nat) (xs : Nat → Int32) (p : Nat) (n : Nat) (d : Nat) (v2 : Int32) (v3 : Int32) (v4 : Int32) (M : mm_M) (o : mm_E) : Prop := ∀ z1 z5 : Option Value, mm_Runs L xs d 28 (5, [some (.ref p), z1, some (.int v2), some (.int v3), some (.int v4), z5], [], M) o
def mp_28_60 (L : Nat) (xs : Nat → Int32) (p : Nat) (n : Nat) (d : Nat) (v3 : Int32) (M : mm_M) (o : mm_E) : Prop := ∀ z0 z1 z2 z4 z5 : Option Value, mm_Runs L xs d 28 (60, [z0, z1, z2, some (.int v3), z4, z5], [], M) o
def mp_28_21 (L : Nat) (xs : Nat → Int32) (p : Nat) (n : Nat) (d : Nat) (v2 : Int32) (v3 : Int32) (v4 : Int32) (v5 : Int32) (M : mm_M) (o : mm_E) : Prop := ∀ z1 : Option Value, mm_Runs L xs d 28 (21, [some (.ref p), z1, some (.int v2), some (.int v3), some (.int v4), some (.int v5)], [], M) o
def mp_28_54 (L : Nat) (xs : Nat → Int32) (p : Nat) (n : Nat) (d : Nat) (v2 : Int32) (v3 : Int32) (v4 : Int32) (M : mm_M) (o : mm_E) : Prop := ∀ z1 z5 : Option Value, mm_Runs L xs d 28 (54, [some (.ref p), z1, some (.int v2), some (.int v3), some (.int v4), z5], [], M) o
noncomputable def mf_28_b21 (p : Nat) (n : Nat) (v2 : Int32) (v3 : Int32) (v4 : Int32) (v5 : Int32) (M : mm_M) : mm_O ((Int32 × Int32) ⊕ (Int32)) := if v5 < (8 : Int32) then (if (v3 &&& (1 : Int32)) = 0 then (some (.inl (.inl ((mm_ush v3 (1 : Int32)), (v5 + (1 : Int32)))), M)) else (some (.inl (.inl (((mm_ush v3 (1 : Int32)) ^^^ (-306674912 : Int32)), (v5 + (1 : Int32)))), M))) else (some (.inl (.inr v3), M))
noncomputable def mf_28_L21 (p : Nat) (n : Nat) (v2 : Int32) (v4 : Int32) (s : Int32 × Int32) (M : mm_M) : mm_O (Int32) := mm_L (fun s M => mf_28_b21 p n v2 s.1 v4 s.2 M) s M
set_option maxRecDepth 8000 in
set_option maxHeartbeats 4000000 in
theorem ms_28_b21 {L : Nat} {xs : Nat → Int32} {p : Nat} {n : Nat} {d : Nat} (ha : mm_aat 0 p = some n) (hd : 0 ≤ d) {v2 : Int32} {v3 : Int32} {v4 : Int32} {v5 : Int32} {M : mm_M} {q : (((Int32 × Int32) ⊕ (Int32)) ⊕ Nat) × mm_M} {o : mm_E} (h : mf_28_b21 p n v2 v3 v4 v5 M = some q) (hA : mm_A (mm_K2 (fun s M o => mp_28_21 L xs p n (d) v2 s.1 v4 s.2 M o) (fun r M o => mp_28_54 L xs p n (d) v2 r v4 M o)) q o) : mp_28_21 L xs p n d v2 v3 v4 v5 M o := by
  unfold mf_28_b21 at h
  intro z1
  show mm_Runs L xs (d) 28 (21, [some (.ref p), z1, some (.int v2), some (.int v3), some (.int v4), some (.int v5)], [], M) o
  refine mm_Runs.seq (l := [(21, .iload 5, 2), (23, .bipush 8, 2)]) (S2 := (25, [some (.ref p), z1, some (.int v2), some (.int v3), some (.int v4), some (.int v5)], [.int (8 : Int32), .int v5], M)) (by decide +kernel) (hO := mm_own_28) rfl ?_
  refine mm_R_ige (t := 54) rfl rfl rfl (fun hc => ?_) (fun hc => ?_)
  · replace h := mm_ip hc h
    refine mm_Runs.seq (l := [(28, .iload_n 3, 1), (29, .iconst 1, 1), (30, .iand, 1)]) (S2 := (31, [some (.ref p), z1, some (.int v2), some (.int v3), some (.int v4), some (.int v5)], [.int (v3 &&& (1 : Int32))], M)) (by decide +kernel) (hO := mm_own_28) rfl ?_
    refine mm_R_zeq (t := 44) rfl rfl rfl (fun hc => ?_) (fun hc => ?_)
    · replace h := mm_ip hc h
      refine mm_Runs.seq (l := [(44, .iload_n 3, 1), (45, .iconst 1, 1), (46, .iushr, 1), (47, .istore_n 3, 1), (48, .iinc 5 1, 3), (51, .goto (-30), 3)]) (S2 := (21, [some (.ref p), z1, some (.int v2), some (.int (mm_ush v3 (1 : Int32))), some (.int v4), some (.int (v5 + (1 : Int32)))], [], M)) (by decide +kernel) (hO := mm_own_28) rfl ?_
      cases h
      exact (show mp_28_21 L xs p n (d) v2 (mm_ush v3 (1 : Int32)) v4 (v5 + (1 : Int32)) M o from hA) z1
    · replace h := mm_iq hc h
      refine mm_Runs.seq (l := [(34, .iload_n 3, 1), (35, .iconst 1, 1), (36, .iushr, 1), (37, .ldc_w 282, 3), (40, .ixor, 1), (41, .goto 6, 3), (47, .istore_n 3, 1), (48, .iinc 5 1, 3), (51, .goto (-30), 3)]) (S2 := (21, [some (.ref p), z1, some (.int v2), some (.int ((mm_ush v3 (1 : Int32)) ^^^ (-306674912 : Int32))), some (.int v4), some (.int (v5 + (1 : Int32)))], [], M)) (by decide +kernel) (hO := mm_own_28) rfl ?_
      cases h
      exact (show mp_28_21 L xs p n (d) v2 ((mm_ush v3 (1 : Int32)) ^^^ (-306674912 : Int32)) v4 (v5 + (1 : Int32)) M o from hA) z1
  · replace h := mm_iq hc h
    cases h
    exact (show mp_28_54 L xs p n (d) v2 v3 v4 M o from hA) z1 (some (.int v5))
theorem ms_28_L21 {L : Nat} {xs : Nat → Int32} {p : Nat} {n : Nat} {d : Nat} (ha : mm_aat 0 p = some n) (hd : 0 ≤ d) {v2 : Int32} {v3 : Int32} {v4 : Int32} {v5 : Int32} {β : Type} {K : β → mm_M → mm_E → Prop} {F : (Int32) → mm_M → mm_O β} {M : mm_M} {q : (β ⊕ Nat) × mm_M} {o : mm_E} (h : mm_B (mf_28_L21 p n v2 v4 (v3, v5) M) F = some q) (hA : mm_A K q o) (hx : ∀ (r : (Int32)) (M2 : mm_M), F r M2 = some q → (fun r M o => mp_28_54 L xs p n (d) v2 r v4 M o) r M2 o) : mp_28_21 L xs p n d v2 v3 v4 v5 M o := mm_R_loop (s := (v3, v5)) (M := M) (P := (fun s M o => mp_28_21 L xs p n (d) v2 s.1 v4 s.2 M o)) (X := (fun r M o => mp_28_54 L xs p n (d) v2 r v4 M o)) h hA (fun s M q hq hA => ms_28_b21 ha hd hq hA) hx
noncomputable def mf_28_b5 (p : Nat) (n : Nat) (v2 : Int32) (v3 : Int32) (v4 : Int32) (M : mm_M) : mm_O ((Int32 × Int32) ⊕ (Int32)) := if v4 < v2 then (if mm_in v4 n then mm_B (mf_28_L21 p n v2 v4 ((v3 ^^^ (M.1 p v4.toNatClampNeg)), (0 : Int32)) M) (fun r2 M1 => some (.inl (.inl (r2, (v4 + (1 : Int32)))), M1)) else none) else (some (.inl (.inr v3), M))
noncomputable def mf_28_L5 (p : Nat) (n : Nat) (v2 : Int32) (s : Int32 × Int32) (M : mm_M) : mm_O (Int32) := mm_L (fun s M => mf_28_b5 p n v2 s.1 s.2 M) s M
set_option maxRecDepth 8000 in
set_option maxHeartbeats 4000000 in
theorem ms_28_b5 {L : Nat} {xs : Nat → Int32} {p : Nat} {n : Nat} {d : Nat} (ha : mm_aat 0 p = some n) (hd : 0 ≤ d) {v2 : Int32} {v3 : Int32} {v4 : Int32} {M : mm_M} {q : (((Int32 × Int32) ⊕ (Int32)) ⊕ Nat) × mm_M} {o : mm_E} (h : mf_28_b5 p n v2 v3 v4 M = some q) (hA : mm_A (mm_K2 (fun s M o => mp_28_5 L xs p n (d) v2 s.1 s.2 M o) (fun r M o => mp_28_60 L xs p n (d) r M o)) q o) : mp_28_5 L xs p n d v2 v3 v4 M o := by
  unfold mf_28_b5 at h
  intro z1 z5
  show mm_Runs L xs (d) 28 (5, [some (.ref p), z1, some (.int v2), some (.int v3), some (.int v4), z5], [], M) o
  refine mm_Runs.seq (l := [(5, .iload 4, 2), (7, .iload_n 2, 1)]) (S2 := (8, [some (.ref p), z1, some (.int v2), some (.int v3), some (.int v4), z5], [.int v2, .int v4], M)) (by decide +kernel) (hO := mm_own_28) rfl ?_
  refine mm_R_ige (t := 60) rfl rfl rfl (fun hc => ?_) (fun hc => ?_)
  · replace h := mm_ip hc h
    refine mm_Runs.seq (l := [(11, .iload_n 3, 1), (12, .aload_n 0, 1), (13, .iload 4, 2)]) (S2 := (15, [some (.ref p), z1, some (.int v2), some (.int v3), some (.int v4), z5], [.int v4, .ref p, .int v3], M)) (by decide +kernel) (hO := mm_own_28) rfl ?_
    obtain ⟨hb, h⟩ := mm_gd h
    refine mm_R_iald rfl ha hb ?_
    refine mm_Runs.seq (l := [(16, .ixor, 1), (17, .istore_n 3, 1), (18, .iconst 0, 1), (19, .istore 5, 2)]) (S2 := (21, [some (.ref p), z1, some (.int v2), some (.int (v3 ^^^ (M.1 p v4.toNatClampNeg))), some (.int v4), some (.int (0 : Int32))], [], M)) (by decide +kernel) (hO := mm_own_28) rfl ?_
    have hp : mp_28_21 L xs p n (d) v2 (v3 ^^^ (M.1 p v4.toNatClampNeg)) v4 (0 : Int32) M o := by
      refine ms_28_L21 ha hd h hA (fun r2 M1 h => ?_)
      intro y3 y4
      show mm_Runs L xs (d) 28 (54, [some (.ref p), y3, some (.int v2), some (.int r2), some (.int v4), y4], [], M1) o
      refine mm_Runs.seq (l := [(54, .iinc 4 1, 3), (57, .goto (-52), 3)]) (S2 := (5, [some (.ref p), y3, some (.int v2), some (.int r2), some (.int (v4 + (1 : Int32))), y4], [], M1)) (by decide +kernel) (hO := mm_own_28) rfl ?_
      cases h
      exact (show mp_28_5 L xs p n (d) v2 r2 (v4 + (1 : Int32)) M1 o from hA) y3 y4
    exact hp z1
  · replace h := mm_iq hc h
    cases h
    exact (show mp_28_60 L xs p n (d) v3 M o from hA) (some (.ref p)) z1 (some (.int v2)) (some (.int v4)) z5
theorem ms_28_L5 {L : Nat} {xs : Nat → Int32} {p : Nat} {n : Nat} {d : Nat} (ha : mm_aat 0 p = some n) (hd : 0 ≤ d) {v2 : Int32} {v3 : Int32} {v4 : Int32} {β : Type} {K : β → mm_M → mm_E → Prop} {F : (Int32) → mm_M → mm_O β} {M : mm_M} {q : (β ⊕ Nat) × mm_M} {o : mm_E} (h : mm_B (mf_28_L5 p n v2 (v3, v4) M) F = some q) (hA : mm_A K q o) (hx : ∀ (r : (Int32)) (M2 : mm_M), F r M2 = some q → (fun r M o => mp_28_60 L xs p n (d) r M o) r M2 o) : mp_28_5 L xs p n d v2 v3 v4 M o := mm_R_loop (s := (v3, v4)) (M := M) (P := (fun s M o => mp_28_5 L xs p n (d) v2 s.1 s.2 M o)) (X := (fun r M o => mp_28_60 L xs p n (d) r M o)) h hA (fun s M q hq hA => ms_28_b5 ha hd hq hA) hx
noncomputable def mf_28 (p : Nat) (n : Nat) (v1 : Int32) (v2 : Int32) (M : mm_M) : mm_O Int32 := mm_B (mf_28_L5 p n v2 ((-1 : Int32), v1) M) (fun r2 M1 => some (.inl (r2 ^^^ (-1 : Int32)), M1))
set_option maxRecDepth 8000 in
set_option maxHeartbeats 4000000 in
theorem ms_28 {L : Nat} {xs : Nat → Int32} {p : Nat} {n : Nat} {d : Nat} (ha : mm_aat 0 p = some n) (hd : 0 ≤ d) {v1 : Int32} {v2 : Int32} {M : mm_M} {q : (Int32 ⊕ Nat) × mm_M} {o : mm_E} (h : mf_28 p n v1 v2 M = some q) (hA : mm_A (mm_Kr mm_wi) q o) : mm_Runs L xs d 28 (0, mm_ent (mm_ml 28) [.ref p, .int v1, .int v2], [], M) o := by
  unfold mf_28 at h
  show mm_Runs L xs (d) 28 (0, [some (.ref p), some (.int v1), some (.int v2), none, none, none], [], M) o
  refine mm_Runs.seq (l := [(0, .iconst (-1), 1), (1, .istore_n 3, 1), (2, .iload_n 1, 1), (3, .istore 4, 2)]) (S2 := (5, [some (.ref p), some (.int v1), some (.int v2), some (.int (-1 : Int32)), some (.int v1), none], [], M)) (by decide +kernel) (hO := mm_own_28) rfl ?_
  have hp : mp_28_5 L xs p n (d) v2 (-1 : Int32) v1 M o := by
    refine ms_28_L5 ha hd h hA (fun r2 M1 h => ?_)
    intro y3 y4 y5 y6 y7
    show mm_Runs L xs (d) 28 (60, [y3, y4, y5, some (.int r2), y6, y7], [], M1) o
    refine mm_Runs.seq (l := [(60, .iload_n 3, 1), (61, .iconst (-1), 1), (62, .ixor, 1)]) (S2 := (63, [y3, y4, y5, some (.int r2), y6, y7], [.int (r2 ^^^ (-1 : Int32))], M1)) (by decide +kernel) (hO := mm_own_28) rfl ?_
    cases h
    exact mm_R_reti rfl rfl hA
  exact hp (some (.int v1)) none
-- 103: PlainPacks$Codes.take(LPlainPacks$Source;)I (depth 8)
theorem mm_own_103 : mm_own 103 = 7 := rfl
def mp_103_12 (L : Nat) (xs : Nat → Int32) (p : Nat) (n : Nat) (d : Nat) (s0 : Int32) (M : mm_M) (o : mm_E) : Prop := ∀ z2 z3 z4 z5 z6 : Option Value, mm_Runs L xs d 103 (12, [some (.ref p), some (.ref 1), z2, z3, z4, z5, z6], [.int s0], M) o
def mp_103_25 (L : Nat) (xs : Nat → Int32) (p : Nat) (n : Nat) (d : Nat) (v2 : Int32) (v3 : Int32) (v4 : Int32) (v5 : Int32) (M : mm_M) (o : mm_E) : Prop := ∀ z6 : Option Value, mm_Runs L xs d 103 (25, [some (.ref p), some (.ref 1), some (.int v2), some (.int v3), some (.int v4), some (.int v5), z6], [], M) o
def mp_103_67 (L : Nat) (xs : Nat → Int32) (p : Nat) (n : Nat) (d : Nat) (v4 : Int32) (v6 : Int32) (M : mm_M) (o : mm_E) : Prop := ∀ z1 z2 z3 z5 : Option Value, mm_Runs L xs d 103 (67, [some (.ref p), z1, z2, z3, some (.int v4), z5, some (.int v6)], [], M) o
def mp_103_78 (L : Nat) (xs : Nat → Int32) (p : Nat) (n : Nat) (d : Nat) (v2 : Int32) (v3 : Int32) (v4 : Int32) (v5 : Int32) (M : mm_M) (o : mm_E) : Prop := ∀ z6 : Option Value, mm_Runs L xs d 103 (78, [some (.ref p), some (.ref 1), some (.int v2), some (.int v3), some (.int v4), some (.int v5), z6], [], M) o
def mp_103_97 (L : Nat) (xs : Nat → Int32) (p : Nat) (n : Nat) (d : Nat) (v2 : Int32) (v3 : Int32) (v4 : Int32) (v5 : Int32) (s0 : Int32) (M : mm_M) (o : mm_E) : Prop := ∀ z6 : Option Value, mm_Runs L xs d 103 (97, [some (.ref p), some (.ref 1), some (.int v2), some (.int v3), some (.int v4), some (.int v5), z6], [.int s0], M) o
noncomputable def mf_103_j97 (p : Nat) (n : Nat) (v2 : Int32) (v3 : Int32) (v4 : Int32) (v5 : Int32) (s0 : Int32) (M : mm_M) : mm_O ((Int32 × Int32 × Int32 × Int32) ⊕ (Int32 × Int32)) := mm_B (mf_27 s0 M) (fun _ M1 => if mm_in v5 21 then if mm_in v5 21 then some (.inl (.inl (v2, (v3 + (M1.1 (p + 3) v5.toNatClampNeg)), (v4 + (M1.1 (p + 3) v5.toNatClampNeg)), (v5 + (1 : Int32)))), M1) else none else none)
set_option maxRecDepth 8000 in
set_option maxHeartbeats 4000000 in
theorem ms_103_j97 {L : Nat} {xs : Nat → Int32} {p : Nat} {n : Nat} {d : Nat} (hC : mm_isC p n) (hd : 8 ≤ d) {v2 : Int32} {v3 : Int32} {v4 : Int32} {v5 : Int32} {s0 : Int32} {M : mm_M} {q : (((Int32 × Int32 × Int32 × Int32) ⊕ (Int32 × Int32)) ⊕ Nat) × mm_M} {o : mm_E} (h : mf_103_j97 p n v2 v3 v4 v5 s0 M = some q) (hA : mm_A (mm_K2 (fun s M o => mp_103_25 L xs p n (d) s.1 s.2.1 s.2.2.1 s.2.2.2 M o) (fun r M o => mp_103_67 L xs p n (d) r.1 r.2 M o)) q o) : mp_103_97 L xs p n d v2 v3 v4 v5 s0 M o := by
  unfold mf_103_j97 at h
  obtain ⟨d, rfl⟩ := mm_d1 (n := 7) hd
  intro z6
  show mm_Runs L xs (d + 1) 103 (97, [some (.ref p), some (.ref 1), some (.int v2), some (.int v3), some (.int v4), some (.int v5), z6], [.int s0], M) o
  refine mm_R_call (v := mm_wv) h hA (k2 := 27) (as := [.int s0]) (r := []) rfl (fun _ => rfl) (fun q hq o ho => ms_27 (by omega) hq ho) (fun _ M1 h => ?_)
  show mm_Runs L xs (d + 1) 103 (100, [some (.ref p), some (.ref 1), some (.int v2), some (.int v3), some (.int v4), some (.int v5), z6], [], M1) o
  refine mm_Runs.seq (l := [(100, .iload_n 3, 1), (101, .aload_n 0, 1)]) (S2 := (102, [some (.ref p), some (.ref 1), some (.int v2), some (.int v3), some (.int v4), some (.int v5), z6], [.ref p, .int v3], M1)) (by decide +kernel) (hO := mm_own_103) rfl ?_
  refine mm_R_getf (ci := 7) (j := 2) (f := .inl (p + 3)) rfl rfl (mm_isC_f2 hC) ?_
  show mm_Runs L xs (d + 1) 103 (105, [some (.ref p), some (.ref 1), some (.int v2), some (.int v3), some (.int v4), some (.int v5), z6], [.ref (p + 3), .int v3], M1) o
  refine mm_Runs.seq (l := [(105, .iload 5, 2)]) (S2 := (107, [some (.ref p), some (.ref 1), some (.int v2), some (.int v3), some (.int v4), some (.int v5), z6], [.int v5, .ref (p + 3), .int v3], M1)) (by decide +kernel) (hO := mm_own_103) rfl ?_
  obtain ⟨hb, h⟩ := mm_gd h
  refine mm_R_iald rfl (mm_isC_a3 hC) hb ?_
  refine mm_Runs.seq (l := [(108, .iadd, 1), (109, .istore_n 3, 1), (110, .iload 4, 2), (112, .aload_n 0, 1)]) (S2 := (113, [some (.ref p), some (.ref 1), some (.int v2), some (.int (v3 + (M1.1 (p + 3) v5.toNatClampNeg))), some (.int v4), some (.int v5), z6], [.ref p, .int v4], M1)) (by decide +kernel) (hO := mm_own_103) rfl ?_
  refine mm_R_getf (ci := 7) (j := 2) (f := .inl (p + 3)) rfl rfl (mm_isC_f2 hC) ?_
  show mm_Runs L xs (d + 1) 103 (116, [some (.ref p), some (.ref 1), some (.int v2), some (.int (v3 + (M1.1 (p + 3) v5.toNatClampNeg))), some (.int v4), some (.int v5), z6], [.ref (p + 3), .int v4], M1) o
  refine mm_Runs.seq (l := [(116, .iload 5, 2)]) (S2 := (118, [some (.ref p), some (.ref 1), some (.int v2), some (.int (v3 + (M1.1 (p + 3) v5.toNatClampNeg))), some (.int v4), some (.int v5), z6], [.int v5, .ref (p + 3), .int v4], M1)) (by decide +kernel) (hO := mm_own_103) rfl ?_
  obtain ⟨hb, h⟩ := mm_gd h
  refine mm_R_iald rfl (mm_isC_a3 hC) hb ?_
  refine mm_Runs.seq (l := [(119, .iadd, 1), (120, .istore 4, 2), (122, .iinc 5 1, 3), (125, .goto (-100), 3)]) (S2 := (25, [some (.ref p), some (.ref 1), some (.int v2), some (.int (v3 + (M1.1 (p + 3) v5.toNatClampNeg))), some (.int (v4 + (M1.1 (p + 3) v5.toNatClampNeg))), some (.int (v5 + (1 : Int32))), z6], [], M1)) (by decide +kernel) (hO := mm_own_103) rfl ?_
  cases h
  exact (show mp_103_25 L xs p n (d + 1) v2 (v3 + (M1.1 (p + 3) v5.toNatClampNeg)) (v4 + (M1.1 (p + 3) v5.toNatClampNeg)) (v5 + (1 : Int32)) M1 o from hA) z6
noncomputable def mf_103_j78 (p : Nat) (n : Nat) (v2 : Int32) (v3 : Int32) (v4 : Int32) (v5 : Int32) (M : mm_M) : mm_O ((Int32 × Int32 × Int32 × Int32) ⊕ (Int32 × Int32)) := if (mm_shl v2 ((20 : Int32) - v5)) < (M.1 p 5) then (mf_103_j97 p n v2 v3 v4 v5 (0 : Int32) M) else (mf_103_j97 p n v2 v3 v4 v5 (1 : Int32) M)
set_option maxRecDepth 8000 in
set_option maxHeartbeats 4000000 in
theorem ms_103_j78 {L : Nat} {xs : Nat → Int32} {p : Nat} {n : Nat} {d : Nat} (hC : mm_isC p n) (hd : 8 ≤ d) {v2 : Int32} {v3 : Int32} {v4 : Int32} {v5 : Int32} {M : mm_M} {q : (((Int32 × Int32 × Int32 × Int32) ⊕ (Int32 × Int32)) ⊕ Nat) × mm_M} {o : mm_E} (h : mf_103_j78 p n v2 v3 v4 v5 M = some q) (hA : mm_A (mm_K2 (fun s M o => mp_103_25 L xs p n (d) s.1 s.2.1 s.2.2.1 s.2.2.2 M o) (fun r M o => mp_103_67 L xs p n (d) r.1 r.2 M o)) q o) : mp_103_78 L xs p n d v2 v3 v4 v5 M o := by
  unfold mf_103_j78 at h
  obtain ⟨d, rfl⟩ := mm_d1 (n := 7) hd
  intro z6
  show mm_Runs L xs (d + 1) 103 (78, [some (.ref p), some (.ref 1), some (.int v2), some (.int v3), some (.int v4), some (.int v5), z6], [], M) o
  refine mm_Runs.seq (l := [(78, .iload_n 2, 1), (79, .bipush 20, 2), (81, .iload 5, 2), (83, .isub, 1), (84, .ishl, 1), (85, .aload_n 0, 1)]) (S2 := (86, [some (.ref p), some (.ref 1), some (.int v2), some (.int v3), some (.int v4), some (.int v5), z6], [.ref p, .int (mm_shl v2 ((20 : Int32) - v5))], M)) (by decide +kernel) (hO := mm_own_103) rfl ?_
  refine mm_R_getf (ci := 7) (j := 5) (f := .inr .int) rfl rfl (mm_isC_f5 hC) ?_
  show mm_Runs L xs (d + 1) 103 (89, [some (.ref p), some (.ref 1), some (.int v2), some (.int v3), some (.int v4), some (.int v5), z6], [.int (M.1 p 5), .int (mm_shl v2 ((20 : Int32) - v5))], M) o
  refine mm_R_ilt (t := 96) rfl rfl rfl (fun hc => ?_) (fun hc => ?_)
  · replace h := mm_ip hc h
    refine mm_Runs.seq (l := [(96, .iconst 0, 1)]) (S2 := (97, [some (.ref p), some (.ref 1), some (.int v2), some (.int v3), some (.int v4), some (.int v5), z6], [.int (0 : Int32)], M)) (by decide +kernel) (hO := mm_own_103) rfl ?_
    exact (ms_103_j97 hC hd h hA : mp_103_97 L xs p n (d + 1) v2 v3 v4 v5 (0 : Int32) M o) z6
  · replace h := mm_iq hc h
    refine mm_Runs.seq (l := [(92, .iconst 1, 1), (93, .goto 4, 3)]) (S2 := (97, [some (.ref p), some (.ref 1), some (.int v2), some (.int v3), some (.int v4), some (.int v5), z6], [.int (1 : Int32)], M)) (by decide +kernel) (hO := mm_own_103) rfl ?_
    exact (ms_103_j97 hC hd h hA : mp_103_97 L xs p n (d + 1) v2 v3 v4 v5 (1 : Int32) M o) z6
noncomputable def mf_103_b25 (p : Nat) (n : Nat) (v2 : Int32) (v3 : Int32) (v4 : Int32) (v5 : Int32) (M : mm_M) : mm_O ((Int32 × Int32 × Int32 × Int32) ⊕ (Int32 × Int32)) := if (20 : Int32) < v5 then (some (.inr 0, mm_th M)) else (mm_B (mf_45 M) (fun r1 M2 => if (((mm_shl v2 (1 : Int32)) ||| r1) - (mm_shl v3 (1 : Int32))) < 0 then (mf_103_j78 p n ((mm_shl v2 (1 : Int32)) ||| r1) (mm_shl v3 (1 : Int32)) v4 v5 M2) else (if mm_in v5 21 then if (((mm_shl v2 (1 : Int32)) ||| r1) - (mm_shl v3 (1 : Int32))) < (M2.1 (p + 3) v5.toNatClampNeg) then (some (.inl (.inr (v4, (((mm_shl v2 (1 : Int32)) ||| r1) - (mm_shl v3 (1 : Int32))))), M2)) else (mf_103_j78 p n ((mm_shl v2 (1 : Int32)) ||| r1) (mm_shl v3 (1 : Int32)) v4 v5 M2) else none)))
noncomputable def mf_103_L25 (p : Nat) (n : Nat) (s : Int32 × Int32 × Int32 × Int32) (M : mm_M) : mm_O (Int32 × Int32) := mm_L (fun s M => mf_103_b25 p n s.1 s.2.1 s.2.2.1 s.2.2.2 M) s M
set_option maxRecDepth 8000 in
set_option maxHeartbeats 4000000 in
theorem ms_103_b25 {L : Nat} {xs : Nat → Int32} {p : Nat} {n : Nat} {d : Nat} (hC : mm_isC p n) (hd : 8 ≤ d) {v2 : Int32} {v3 : Int32} {v4 : Int32} {v5 : Int32} {M : mm_M} {q : (((Int32 × Int32 × Int32 × Int32) ⊕ (Int32 × Int32)) ⊕ Nat) × mm_M} {o : mm_E} (h : mf_103_b25 p n v2 v3 v4 v5 M = some q) (hA : mm_A (mm_K2 (fun s M o => mp_103_25 L xs p n (d) s.1 s.2.1 s.2.2.1 s.2.2.2 M o) (fun r M o => mp_103_67 L xs p n (d) r.1 r.2 M o)) q o) : mp_103_25 L xs p n d v2 v3 v4 v5 M o := by
  unfold mf_103_b25 at h
  obtain ⟨d, rfl⟩ := mm_d1 (n := 7) hd
  intro z6
  show mm_Runs L xs (d + 1) 103 (25, [some (.ref p), some (.ref 1), some (.int v2), some (.int v3), some (.int v4), some (.int v5), z6], [], M) o
  refine mm_Runs.seq (l := [(25, .iload 5, 2), (27, .bipush 20, 2)]) (S2 := (29, [some (.ref p), some (.ref 1), some (.int v2), some (.int v3), some (.int v4), some (.int v5), z6], [.int (20 : Int32), .int v5], M)) (by decide +kernel) (hO := mm_own_103) rfl ?_
  refine mm_R_igt (t := 128) rfl rfl rfl (fun hc => ?_) (fun hc => ?_)
  · replace h := mm_ip hc h
    cases h
    exact mm_R_thr rfl rfl rfl (by omega) hA
  · replace h := mm_iq hc h
    refine mm_Runs.seq (l := [(32, .iload_n 2, 1), (33, .iconst 1, 1), (34, .ishl, 1), (35, .aload_n 1, 1)]) (S2 := (36, [some (.ref p), some (.ref 1), some (.int v2), some (.int v3), some (.int v4), some (.int v5), z6], [.ref 1, .int (mm_shl v2 (1 : Int32))], M)) (by decide +kernel) (hO := mm_own_103) rfl ?_
    refine mm_R_call (v := mm_wi) h hA (k2 := 45) (as := [.ref 1]) (r := [.int (mm_shl v2 (1 : Int32))]) rfl (fun _ => rfl) (fun q hq o ho => ms_45 (by omega) hq ho) (fun r1 M2 h => ?_)
    show mm_Runs L xs (d + 1) 103 (39, [some (.ref p), some (.ref 1), some (.int v2), some (.int v3), some (.int v4), some (.int v5), z6], [.int r1, .int (mm_shl v2 (1 : Int32))], M2) o
    refine mm_Runs.seq (l := [(39, .ior, 1), (40, .istore_n 2, 1), (41, .iload_n 3, 1), (42, .iconst 1, 1), (43, .ishl, 1), (44, .istore_n 3, 1), (45, .iload_n 2, 1), (46, .iload_n 3, 1), (47, .isub, 1), (48, .istore 6, 2), (50, .iload 6, 2)]) (S2 := (52, [some (.ref p), some (.ref 1), some (.int ((mm_shl v2 (1 : Int32)) ||| r1)), some (.int (mm_shl v3 (1 : Int32))), some (.int v4), some (.int v5), some (.int (((mm_shl v2 (1 : Int32)) ||| r1) - (mm_shl v3 (1 : Int32))))], [.int (((mm_shl v2 (1 : Int32)) ||| r1) - (mm_shl v3 (1 : Int32)))], M2)) (by decide +kernel) (hO := mm_own_103) rfl ?_
    refine mm_R_zlt (t := 78) rfl rfl rfl (fun hc => ?_) (fun hc => ?_)
    · replace h := mm_ip hc h
      exact (ms_103_j78 hC hd h hA : mp_103_78 L xs p n (d + 1) ((mm_shl v2 (1 : Int32)) ||| r1) (mm_shl v3 (1 : Int32)) v4 v5 M2 o) (some (.int (((mm_shl v2 (1 : Int32)) ||| r1) - (mm_shl v3 (1 : Int32)))))
    · replace h := mm_iq hc h
      refine mm_Runs.seq (l := [(55, .iload 6, 2), (57, .aload_n 0, 1)]) (S2 := (58, [some (.ref p), some (.ref 1), some (.int ((mm_shl v2 (1 : Int32)) ||| r1)), some (.int (mm_shl v3 (1 : Int32))), some (.int v4), some (.int v5), some (.int (((mm_shl v2 (1 : Int32)) ||| r1) - (mm_shl v3 (1 : Int32))))], [.ref p, .int (((mm_shl v2 (1 : Int32)) ||| r1) - (mm_shl v3 (1 : Int32)))], M2)) (by decide +kernel) (hO := mm_own_103) rfl ?_
      refine mm_R_getf (ci := 7) (j := 2) (f := .inl (p + 3)) rfl rfl (mm_isC_f2 hC) ?_
      show mm_Runs L xs (d + 1) 103 (61, [some (.ref p), some (.ref 1), some (.int ((mm_shl v2 (1 : Int32)) ||| r1)), some (.int (mm_shl v3 (1 : Int32))), some (.int v4), some (.int v5), some (.int (((mm_shl v2 (1 : Int32)) ||| r1) - (mm_shl v3 (1 : Int32))))], [.ref (p + 3), .int (((mm_shl v2 (1 : Int32)) ||| r1) - (mm_shl v3 (1 : Int32)))], M2) o
      refine mm_Runs.seq (l := [(61, .iload 5, 2)]) (S2 := (63, [some (.ref p), some (.ref 1), some (.int ((mm_shl v2 (1 : Int32)) ||| r1)), some (.int (mm_shl v3 (1 : Int32))), some (.int v4), some (.int v5), some (.int (((mm_shl v2 (1 : Int32)) ||| r1) - (mm_shl v3 (1 : Int32))))], [.int v5, .ref (p + 3), .int (((mm_shl v2 (1 : Int32)) ||| r1) - (mm_shl v3 (1 : Int32)))], M2)) (by decide +kernel) (hO := mm_own_103) rfl ?_
      obtain ⟨hb, h⟩ := mm_gd h
      refine mm_R_iald rfl (mm_isC_a3 hC) hb ?_
      refine mm_R_ige (t := 78) rfl rfl rfl (fun hc => ?_) (fun hc => ?_)
      · replace h := mm_ip hc h
        cases h
        exact (show mp_103_67 L xs p n (d + 1) v4 (((mm_shl v2 (1 : Int32)) ||| r1) - (mm_shl v3 (1 : Int32))) M2 o from hA) (some (.ref 1)) (some (.int ((mm_shl v2 (1 : Int32)) ||| r1))) (some (.int (mm_shl v3 (1 : Int32)))) (some (.int v5))
      · replace h := mm_iq hc h
        exact (ms_103_j78 hC hd h hA : mp_103_78 L xs p n (d + 1) ((mm_shl v2 (1 : Int32)) ||| r1) (mm_shl v3 (1 : Int32)) v4 v5 M2 o) (some (.int (((mm_shl v2 (1 : Int32)) ||| r1) - (mm_shl v3 (1 : Int32)))))
theorem ms_103_L25 {L : Nat} {xs : Nat → Int32} {p : Nat} {n : Nat} {d : Nat} (hC : mm_isC p n) (hd : 8 ≤ d) {v2 : Int32} {v3 : Int32} {v4 : Int32} {v5 : Int32} {β : Type} {K : β → mm_M → mm_E → Prop} {F : (Int32 × Int32) → mm_M → mm_O β} {M : mm_M} {q : (β ⊕ Nat) × mm_M} {o : mm_E} (h : mm_B (mf_103_L25 p n (v2, v3, v4, v5) M) F = some q) (hA : mm_A K q o) (hx : ∀ (r : (Int32 × Int32)) (M2 : mm_M), F r M2 = some q → (fun r M o => mp_103_67 L xs p n (d) r.1 r.2 M o) r M2 o) : mp_103_25 L xs p n d v2 v3 v4 v5 M o := mm_R_loop (s := (v2, v3, v4, v5)) (M := M) (P := (fun s M o => mp_103_25 L xs p n (d) s.1 s.2.1 s.2.2.1 s.2.2.2 M o)) (X := (fun r M o => mp_103_67 L xs p n (d) r.1 r.2 M o)) h hA (fun s M q hq hA => ms_103_b25 hC hd hq hA) hx
noncomputable def mf_103_j67 (p : Nat) (n : Nat) (v4 : Int32) (v6 : Int32) (M : mm_M) : mm_O Int32 := if mm_in (v4 + v6) n then some (.inl (M.1 (p + 2) (v4 + v6).toNatClampNeg), M) else none
set_option maxRecDepth 8000 in
set_option maxHeartbeats 4000000 in
theorem ms_103_j67 {L : Nat} {xs : Nat → Int32} {p : Nat} {n : Nat} {d : Nat} (hC : mm_isC p n) (hd : 8 ≤ d) {v4 : Int32} {v6 : Int32} {M : mm_M} {q : (Int32 ⊕ Nat) × mm_M} {o : mm_E} (h : mf_103_j67 p n v4 v6 M = some q) (hA : mm_A (mm_Kr mm_wi) q o) : mp_103_67 L xs p n d v4 v6 M o := by
  unfold mf_103_j67 at h
  obtain ⟨d, rfl⟩ := mm_d1 (n := 7) hd
  intro z1 z2 z3 z5
  show mm_Runs L xs (d + 1) 103 (67, [some (.ref p), z1, z2, z3, some (.int v4), z5, some (.int v6)], [], M) o
  refine mm_Runs.seq (l := [(67, .aload_n 0, 1)]) (S2 := (68, [some (.ref p), z1, z2, z3, some (.int v4), z5, some (.int v6)], [.ref p], M)) (by decide +kernel) (hO := mm_own_103) rfl ?_
  refine mm_R_getf (ci := 7) (j := 1) (f := .inl (p + 2)) rfl rfl (mm_isC_f1 hC) ?_
  show mm_Runs L xs (d + 1) 103 (71, [some (.ref p), z1, z2, z3, some (.int v4), z5, some (.int v6)], [.ref (p + 2)], M) o
  refine mm_Runs.seq (l := [(71, .iload 4, 2), (73, .iload 6, 2), (75, .iadd, 1)]) (S2 := (76, [some (.ref p), z1, z2, z3, some (.int v4), z5, some (.int v6)], [.int (v4 + v6), .ref (p + 2)], M)) (by decide +kernel) (hO := mm_own_103) rfl ?_
  obtain ⟨hb, h⟩ := mm_gd h
  refine mm_R_iald rfl (mm_isC_a2 hC) hb ?_
  cases h
  exact mm_R_reti rfl rfl hA
noncomputable def mf_103_j12 (p : Nat) (n : Nat) (s0 : Int32) (M : mm_M) : mm_O Int32 := mm_B (mf_27 s0 M) (fun _ M1 => mm_B (mf_103_L25 p n ((0 : Int32), (0 : Int32), (0 : Int32), (1 : Int32)) M1) (fun r3 M2 => mf_103_j67 p n r3.1 r3.2 M2))
set_option maxRecDepth 8000 in
set_option maxHeartbeats 4000000 in
theorem ms_103_j12 {L : Nat} {xs : Nat → Int32} {p : Nat} {n : Nat} {d : Nat} (hC : mm_isC p n) (hd : 8 ≤ d) {s0 : Int32} {M : mm_M} {q : (Int32 ⊕ Nat) × mm_M} {o : mm_E} (h : mf_103_j12 p n s0 M = some q) (hA : mm_A (mm_Kr mm_wi) q o) : mp_103_12 L xs p n d s0 M o := by
  unfold mf_103_j12 at h
  obtain ⟨d, rfl⟩ := mm_d1 (n := 7) hd
  intro z2 z3 z4 z5 z6
  show mm_Runs L xs (d + 1) 103 (12, [some (.ref p), some (.ref 1), z2, z3, z4, z5, z6], [.int s0], M) o
  refine mm_R_call (v := mm_wv) h hA (k2 := 27) (as := [.int s0]) (r := []) rfl (fun _ => rfl) (fun q hq o ho => ms_27 (by omega) hq ho) (fun _ M1 h => ?_)
  show mm_Runs L xs (d + 1) 103 (15, [some (.ref p), some (.ref 1), z2, z3, z4, z5, z6], [], M1) o
  refine mm_Runs.seq (l := [(15, .iconst 0, 1), (16, .istore_n 2, 1), (17, .iconst 0, 1), (18, .istore_n 3, 1), (19, .iconst 0, 1), (20, .istore 4, 2), (22, .iconst 1, 1), (23, .istore 5, 2)]) (S2 := (25, [some (.ref p), some (.ref 1), some (.int (0 : Int32)), some (.int (0 : Int32)), some (.int (0 : Int32)), some (.int (1 : Int32)), z6], [], M1)) (by decide +kernel) (hO := mm_own_103) rfl ?_
  have hp : mp_103_25 L xs p n (d + 1) (0 : Int32) (0 : Int32) (0 : Int32) (1 : Int32) M1 o := by
    refine ms_103_L25 hC hd h hA (fun r3 M2 h => ?_)
    intro y4 y5 y6 y7
    show mm_Runs L xs (d + 1) 103 (67, [some (.ref p), y4, y5, y6, some (.int r3.1), y7, some (.int r3.2)], [], M2) o
    exact (ms_103_j67 hC hd h hA : mp_103_67 L xs p n (d + 1) r3.1 r3.2 M2 o) y4 y5 y6 y7
  exact hp z6
noncomputable def mf_103 (p : Nat) (n : Nat) (M : mm_M) : mm_O Int32 := if (M.1 p 4) = 0 then (mf_103_j12 p n (1 : Int32) M) else (mf_103_j12 p n (0 : Int32) M)
set_option maxRecDepth 8000 in
set_option maxHeartbeats 4000000 in
theorem ms_103 {L : Nat} {xs : Nat → Int32} {p : Nat} {n : Nat} {d : Nat} (hC : mm_isC p n) (hd : 8 ≤ d) {M : mm_M} {q : (Int32 ⊕ Nat) × mm_M} {o : mm_E} (h : mf_103 p n M = some q) (hA : mm_A (mm_Kr mm_wi) q o) : mm_Runs L xs d 103 (0, mm_ent (mm_ml 103) [.ref p, .ref 1], [], M) o := by
  unfold mf_103 at h
  obtain ⟨d, rfl⟩ := mm_d1 (n := 7) hd
  show mm_Runs L xs (d + 1) 103 (0, [some (.ref p), some (.ref 1), none, none, none, none, none], [], M) o
  refine mm_Runs.seq (l := [(0, .aload_n 0, 1)]) (S2 := (1, [some (.ref p), some (.ref 1), none, none, none, none, none], [.ref p], M)) (by decide +kernel) (hO := mm_own_103) rfl ?_
  refine mm_R_getf (ci := 7) (j := 4) (f := .inr .int) rfl rfl (mm_isC_f4 hC) ?_
  show mm_Runs L xs (d + 1) 103 (4, [some (.ref p), some (.ref 1), none, none, none, none, none], [.int (M.1 p 4)], M) o
  refine mm_R_zne (t := 11) rfl rfl rfl (fun hc => ?_) (fun hc => ?_)
  · replace h := mm_ip hc h
    refine mm_Runs.seq (l := [(7, .iconst 1, 1), (8, .goto 4, 3)]) (S2 := (12, [some (.ref p), some (.ref 1), none, none, none, none, none], [.int (1 : Int32)], M)) (by decide +kernel) (hO := mm_own_103) rfl ?_
    exact (ms_103_j12 hC hd h hA : mp_103_12 L xs p n (d + 1) (1 : Int32) M o) none none none none none
  · replace h := mm_iq hc h
    refine mm_Runs.seq (l := [(11, .iconst 0, 1)]) (S2 := (12, [some (.ref p), some (.ref 1), none, none, none, none, none], [.int (0 : Int32)], M)) (by decide +kernel) (hO := mm_own_103) rfl ?_
    exact (ms_103_j12 hC hd h hA : mp_103_12 L xs p n (d + 1) (0 : Int32) M o) none none none none none
-- 290: java/util/Arrays.fill([II)V (depth 0)
theorem mm_own_290 : mm_own 290 = 15 := rfl
def mp_290_5 (L : Nat) (xs : Nat → Int32) (p : Nat) (n : Nat) (d : Nat) (v1 : Int32) (v2 : Int32) (v3 : Int32) (M : mm_M) (o : mm_E) : Prop := mm_Runs L xs d 290 (5, [some (.ref p), some (.int v1), some (.int v2), some (.int v3)], [], M) o
def mp_290_20 (L : Nat) (xs : Nat → Int32) (p : Nat) (n : Nat) (d : Nat) (M : mm_M) (o : mm_E) : Prop := ∀ z0 z1 z2 z3 : Option Value, mm_Runs L xs d 290 (20, [z0, z1, z2, z3], [], M) o
noncomputable def mf_290_b5 (p : Nat) (n : Nat) (v1 : Int32) (v2 : Int32) (v3 : Int32) (M : mm_M) : mm_O ((Int32) ⊕ (Unit)) := if v2 < v3 then (if mm_in v2 n then some (.inl (.inl (v2 + (1 : Int32))), (mm_pi M p v2.toNatClampNeg v1)) else none) else (some (.inl (.inr ()), M))
noncomputable def mf_290_L5 (p : Nat) (n : Nat) (v1 : Int32) (v3 : Int32) (s : Int32) (M : mm_M) : mm_O (Unit) := mm_L (fun s M => mf_290_b5 p n v1 s v3 M) s M
set_option maxRecDepth 8000 in
set_option maxHeartbeats 4000000 in
theorem ms_290_b5 {L : Nat} {xs : Nat → Int32} {p : Nat} {n : Nat} {d : Nat} (ha : mm_aat 0 p = some n) (hd : 0 ≤ d) {v1 : Int32} {v2 : Int32} {v3 : Int32} {M : mm_M} {q : (((Int32) ⊕ (Unit)) ⊕ Nat) × mm_M} {o : mm_E} (h : mf_290_b5 p n v1 v2 v3 M = some q) (hA : mm_A (mm_K2 (fun s M o => mp_290_5 L xs p n (d) v1 s v3 M o) (fun r M o => mp_290_20 L xs p n (d) M o)) q o) : mp_290_5 L xs p n d v1 v2 v3 M o := by
  unfold mf_290_b5 at h
  show mm_Runs L xs (d) 290 (5, [some (.ref p), some (.int v1), some (.int v2), some (.int v3)], [], M) o
  refine mm_Runs.seq (l := [(5, .iload_n 2, 1), (6, .iload_n 3, 1)]) (S2 := (7, [some (.ref p), some (.int v1), some (.int v2), some (.int v3)], [.int v3, .int v2], M)) (by decide +kernel) (hO := mm_own_290) rfl ?_
  refine mm_R_ige (t := 20) rfl rfl rfl (fun hc => ?_) (fun hc => ?_)
  · replace h := mm_ip hc h
    refine mm_Runs.seq (l := [(10, .aload_n 0, 1), (11, .iload_n 2, 1), (12, .iload_n 1, 1)]) (S2 := (13, [some (.ref p), some (.int v1), some (.int v2), some (.int v3)], [.int v1, .int v2, .ref p], M)) (by decide +kernel) (hO := mm_own_290) rfl ?_
    obtain ⟨hb, h⟩ := mm_gd h
    refine mm_R_iast rfl ha hb ?_
    refine mm_Runs.seq (l := [(14, .iinc 2 1, 3), (17, .goto (-12), 3)]) (S2 := (5, [some (.ref p), some (.int v1), some (.int (v2 + (1 : Int32))), some (.int v3)], [], (mm_pi M p v2.toNatClampNeg v1))) (by decide +kernel) (hO := mm_own_290) rfl ?_
    cases h
    exact (show mp_290_5 L xs p n (d) v1 (v2 + (1 : Int32)) v3 (mm_pi M p v2.toNatClampNeg v1) o from hA)
  · replace h := mm_iq hc h
    cases h
    exact (show mp_290_20 L xs p n (d) M o from hA) (some (.ref p)) (some (.int v1)) (some (.int v2)) (some (.int v3))
theorem ms_290_L5 {L : Nat} {xs : Nat → Int32} {p : Nat} {n : Nat} {d : Nat} (ha : mm_aat 0 p = some n) (hd : 0 ≤ d) {v1 : Int32} {v2 : Int32} {v3 : Int32} {β : Type} {K : β → mm_M → mm_E → Prop} {F : (Unit) → mm_M → mm_O β} {M : mm_M} {q : (β ⊕ Nat) × mm_M} {o : mm_E} (h : mm_B (mf_290_L5 p n v1 v3 v2 M) F = some q) (hA : mm_A K q o) (hx : ∀ (r : (Unit)) (M2 : mm_M), F r M2 = some q → (fun r M o => mp_290_20 L xs p n (d) M o) r M2 o) : mp_290_5 L xs p n d v1 v2 v3 M o := mm_R_loop (s := v2) (M := M) (P := (fun s M o => mp_290_5 L xs p n (d) v1 s v3 M o)) (X := (fun r M o => mp_290_20 L xs p n (d) M o)) h hA (fun s M q hq hA => ms_290_b5 ha hd hq hA) hx
noncomputable def mf_290 (p : Nat) (n : Nat) (v1 : Int32) (M : mm_M) : mm_O Unit := mm_B (mf_290_L5 p n v1 (Int32.ofNat n) (0 : Int32) M) (fun r2 M1 => some (.inl (), M1))
set_option maxRecDepth 8000 in
set_option maxHeartbeats 4000000 in
theorem ms_290 {L : Nat} {xs : Nat → Int32} {p : Nat} {n : Nat} {d : Nat} (ha : mm_aat 0 p = some n) (hd : 0 ≤ d) {v1 : Int32} {M : mm_M} {q : (Unit ⊕ Nat) × mm_M} {o : mm_E} (h : mf_290 p n v1 M = some q) (hA : mm_A (mm_Kr mm_wv) q o) : mm_Runs L xs d 290 (0, mm_ent (mm_ml 290) [.ref p, .int v1], [], M) o := by
  unfold mf_290 at h
  show mm_Runs L xs (d) 290 (0, [some (.ref p), some (.int v1), none, none], [], M) o
  refine mm_Runs.seq (l := [(0, .iconst 0, 1), (1, .istore_n 2, 1), (2, .aload_n 0, 1)]) (S2 := (3, [some (.ref p), some (.int v1), some (.int (0 : Int32)), none], [.ref p], M)) (by decide +kernel) (hO := mm_own_290) rfl ?_
  refine mm_R_alen rfl ha ?_
  refine mm_Runs.seq (l := [(4, .istore_n 3, 1)]) (S2 := (5, [some (.ref p), some (.int v1), some (.int (0 : Int32)), some (.int (Int32.ofNat n))], [], M)) (by decide +kernel) (hO := mm_own_290) rfl ?_
  have hp : mp_290_5 L xs p n (d) v1 (0 : Int32) (Int32.ofNat n) M o := by
    refine ms_290_L5 ha hd h hA (fun r2 M1 h => ?_)
    intro y3 y4 y5 y6
    show mm_Runs L xs (d) 290 (20, [y3, y4, y5, y6], [], M1) o
    cases h
    exact mm_R_retv rfl rfl hA
  exact hp
-- 99: PlainPacks$Codes.make(I)V (depth 2)
theorem mm_own_99 : mm_own 99 = 7 := rfl
def mp_99_30 (L : Nat) (xs : Nat → Int32) (p : Nat) (n : Nat) (d : Nat) (v2 : Int32) (v3 : Int32) (M : mm_M) (o : mm_E) : Prop := ∀ z1 z4 : Option Value, mm_Runs L xs d 99 (30, [some (.ref p), z1, some (.int v2), some (.int v3), z4], [], M) o
def mp_99_96 (L : Nat) (xs : Nat → Int32) (p : Nat) (n : Nat) (d : Nat) (v2 : Int32) (M : mm_M) (o : mm_E) : Prop := ∀ z1 z3 z4 : Option Value, mm_Runs L xs d 99 (96, [some (.ref p), z1, some (.int v2), z3, z4], [], M) o
noncomputable def mf_99_b30 (p : Nat) (n : Nat) (v2 : Int32) (v3 : Int32) (M : mm_M) : mm_O ((Int32) ⊕ (Unit)) := if v3 < v2 then (if mm_in v3 n then if 0 < (M.1 (p + 1) v3.toNatClampNeg) then (if (20 : Int32) < (M.1 (p + 1) v3.toNatClampNeg) then (some (.inl (.inl (v3 + (1 : Int32))), M)) else (if mm_in (M.1 (p + 1) v3.toNatClampNeg) 21 then if mm_in (M.1 (p + 1) v3.toNatClampNeg) 21 then some (.inl (.inl (v3 + (1 : Int32))), (mm_pi (mm_pi (mm_pi M (p + 3) (M.1 (p + 1) v3.toNatClampNeg).toNatClampNeg ((M.1 (p + 3) (M.1 (p + 1) v3.toNatClampNeg).toNatClampNeg) + (1 : Int32))) p 4 (((mm_pi M (p + 3) (M.1 (p + 1) v3.toNatClampNeg).toNatClampNeg ((M.1 (p + 3) (M.1 (p + 1) v3.toNatClampNeg).toNatClampNeg) + (1 : Int32))).1 p 4) + (1 : Int32))) p 5 (((mm_pi (mm_pi M (p + 3) (M.1 (p + 1) v3.toNatClampNeg).toNatClampNeg ((M.1 (p + 3) (M.1 (p + 1) v3.toNatClampNeg).toNatClampNeg) + (1 : Int32))) p 4 (((mm_pi M (p + 3) (M.1 (p + 1) v3.toNatClampNeg).toNatClampNeg ((M.1 (p + 3) (M.1 (p + 1) v3.toNatClampNeg).toNatClampNeg) + (1 : Int32))).1 p 4) + (1 : Int32))).1 p 5) + (mm_shr (1048576 : Int32) (M.1 (p + 1) v3.toNatClampNeg))))) else none else none)) else (some (.inl (.inl (v3 + (1 : Int32))), M)) else none) else (some (.inl (.inr ()), M))
noncomputable def mf_99_L30 (p : Nat) (n : Nat) (v2 : Int32) (s : Int32) (M : mm_M) : mm_O (Unit) := mm_L (fun s M => mf_99_b30 p n v2 s M) s M
set_option maxRecDepth 8000 in
set_option maxHeartbeats 4000000 in
theorem ms_99_b30 {L : Nat} {xs : Nat → Int32} {p : Nat} {n : Nat} {d : Nat} (hC : mm_isC p n) (hd : 2 ≤ d) {v2 : Int32} {v3 : Int32} {M : mm_M} {q : (((Int32) ⊕ (Unit)) ⊕ Nat) × mm_M} {o : mm_E} (h : mf_99_b30 p n v2 v3 M = some q) (hA : mm_A (mm_K2 (fun s M o => mp_99_30 L xs p n (d) v2 s M o) (fun r M o => mp_99_96 L xs p n (d) v2 M o)) q o) : mp_99_30 L xs p n d v2 v3 M o := by
  unfold mf_99_b30 at h
  obtain ⟨d, rfl⟩ := mm_d1 (n := 1) hd
  intro z1 z4
  show mm_Runs L xs (d + 1) 99 (30, [some (.ref p), z1, some (.int v2), some (.int v3), z4], [], M) o
  refine mm_Runs.seq (l := [(30, .iload_n 3, 1), (31, .iload_n 2, 1)]) (S2 := (32, [some (.ref p), z1, some (.int v2), some (.int v3), z4], [.int v2, .int v3], M)) (by decide +kernel) (hO := mm_own_99) rfl ?_
  refine mm_R_ige (t := 96) rfl rfl rfl (fun hc => ?_) (fun hc => ?_)
  · replace h := mm_ip hc h
    refine mm_Runs.seq (l := [(35, .aload_n 0, 1)]) (S2 := (36, [some (.ref p), z1, some (.int v2), some (.int v3), z4], [.ref p], M)) (by decide +kernel) (hO := mm_own_99) rfl ?_
    refine mm_R_getf (ci := 7) (j := 0) (f := .inl (p + 1)) rfl rfl (mm_isC_f0 hC) ?_
    show mm_Runs L xs (d + 1) 99 (39, [some (.ref p), z1, some (.int v2), some (.int v3), z4], [.ref (p + 1)], M) o
    refine mm_Runs.seq (l := [(39, .iload_n 3, 1)]) (S2 := (40, [some (.ref p), z1, some (.int v2), some (.int v3), z4], [.int v3, .ref (p + 1)], M)) (by decide +kernel) (hO := mm_own_99) rfl ?_
    obtain ⟨hb, h⟩ := mm_gd h
    refine mm_R_iald rfl (mm_isC_a1 hC) hb ?_
    refine mm_Runs.seq (l := [(41, .istore 4, 2), (43, .iload 4, 2)]) (S2 := (45, [some (.ref p), z1, some (.int v2), some (.int v3), some (.int (M.1 (p + 1) v3.toNatClampNeg))], [.int (M.1 (p + 1) v3.toNatClampNeg)], M)) (by decide +kernel) (hO := mm_own_99) rfl ?_
    refine mm_R_zle (t := 90) rfl rfl rfl (fun hc => ?_) (fun hc => ?_)
    · replace h := mm_ip hc h
      refine mm_Runs.seq (l := [(48, .iload 4, 2), (50, .bipush 20, 2)]) (S2 := (52, [some (.ref p), z1, some (.int v2), some (.int v3), some (.int (M.1 (p + 1) v3.toNatClampNeg))], [.int (20 : Int32), .int (M.1 (p + 1) v3.toNatClampNeg)], M)) (by decide +kernel) (hO := mm_own_99) rfl ?_
      refine mm_R_igt (t := 90) rfl rfl rfl (fun hc => ?_) (fun hc => ?_)
      · replace h := mm_ip hc h
        refine mm_Runs.seq (l := [(90, .iinc 3 1, 3), (93, .goto (-63), 3)]) (S2 := (30, [some (.ref p), z1, some (.int v2), some (.int (v3 + (1 : Int32))), some (.int (M.1 (p + 1) v3.toNatClampNeg))], [], M)) (by decide +kernel) (hO := mm_own_99) rfl ?_
        cases h
        exact (show mp_99_30 L xs p n (d + 1) v2 (v3 + (1 : Int32)) M o from hA) z1 (some (.int (M.1 (p + 1) v3.toNatClampNeg)))
      · replace h := mm_iq hc h
        refine mm_Runs.seq (l := [(55, .aload_n 0, 1)]) (S2 := (56, [some (.ref p), z1, some (.int v2), some (.int v3), some (.int (M.1 (p + 1) v3.toNatClampNeg))], [.ref p], M)) (by decide +kernel) (hO := mm_own_99) rfl ?_
        refine mm_R_getf (ci := 7) (j := 2) (f := .inl (p + 3)) rfl rfl (mm_isC_f2 hC) ?_
        show mm_Runs L xs (d + 1) 99 (59, [some (.ref p), z1, some (.int v2), some (.int v3), some (.int (M.1 (p + 1) v3.toNatClampNeg))], [.ref (p + 3)], M) o
        refine mm_Runs.seq (l := [(59, .iload 4, 2), (61, .dup2, 1)]) (S2 := (62, [some (.ref p), z1, some (.int v2), some (.int v3), some (.int (M.1 (p + 1) v3.toNatClampNeg))], [.int (M.1 (p + 1) v3.toNatClampNeg), .ref (p + 3), .int (M.1 (p + 1) v3.toNatClampNeg), .ref (p + 3)], M)) (by decide +kernel) (hO := mm_own_99) rfl ?_
        obtain ⟨hb, h⟩ := mm_gd h
        refine mm_R_iald rfl (mm_isC_a3 hC) hb ?_
        refine mm_Runs.seq (l := [(63, .iconst 1, 1), (64, .iadd, 1)]) (S2 := (65, [some (.ref p), z1, some (.int v2), some (.int v3), some (.int (M.1 (p + 1) v3.toNatClampNeg))], [.int ((M.1 (p + 3) (M.1 (p + 1) v3.toNatClampNeg).toNatClampNeg) + (1 : Int32)), .int (M.1 (p + 1) v3.toNatClampNeg), .ref (p + 3)], M)) (by decide +kernel) (hO := mm_own_99) rfl ?_
        obtain ⟨hb, h⟩ := mm_gd h
        refine mm_R_iast rfl (mm_isC_a3 hC) hb ?_
        refine mm_Runs.seq (l := [(66, .aload_n 0, 1), (67, .dup, 1)]) (S2 := (68, [some (.ref p), z1, some (.int v2), some (.int v3), some (.int (M.1 (p + 1) v3.toNatClampNeg))], [.ref p, .ref p], (mm_pi M (p + 3) (M.1 (p + 1) v3.toNatClampNeg).toNatClampNeg ((M.1 (p + 3) (M.1 (p + 1) v3.toNatClampNeg).toNatClampNeg) + (1 : Int32))))) (by decide +kernel) (hO := mm_own_99) rfl ?_
        refine mm_R_getf (ci := 7) (j := 4) (f := .inr .int) rfl rfl (mm_isC_f4 hC) ?_
        show mm_Runs L xs (d + 1) 99 (71, [some (.ref p), z1, some (.int v2), some (.int v3), some (.int (M.1 (p + 1) v3.toNatClampNeg))], [.int ((mm_pi M (p + 3) (M.1 (p + 1) v3.toNatClampNeg).toNatClampNeg ((M.1 (p + 3) (M.1 (p + 1) v3.toNatClampNeg).toNatClampNeg) + (1 : Int32))).1 p 4), .ref p], (mm_pi M (p + 3) (M.1 (p + 1) v3.toNatClampNeg).toNatClampNeg ((M.1 (p + 3) (M.1 (p + 1) v3.toNatClampNeg).toNatClampNeg) + (1 : Int32)))) o
        refine mm_Runs.seq (l := [(71, .iconst 1, 1), (72, .iadd, 1)]) (S2 := (73, [some (.ref p), z1, some (.int v2), some (.int v3), some (.int (M.1 (p + 1) v3.toNatClampNeg))], [.int (((mm_pi M (p + 3) (M.1 (p + 1) v3.toNatClampNeg).toNatClampNeg ((M.1 (p + 3) (M.1 (p + 1) v3.toNatClampNeg).toNatClampNeg) + (1 : Int32))).1 p 4) + (1 : Int32)), .ref p], (mm_pi M (p + 3) (M.1 (p + 1) v3.toNatClampNeg).toNatClampNeg ((M.1 (p + 3) (M.1 (p + 1) v3.toNatClampNeg).toNatClampNeg) + (1 : Int32))))) (by decide +kernel) (hO := mm_own_99) rfl ?_
        refine mm_R_putf (ci := 7) (j := 4) rfl rfl (mm_isC_f4 hC) ?_
        refine mm_Runs.seq (l := [(76, .aload_n 0, 1), (77, .dup, 1)]) (S2 := (78, [some (.ref p), z1, some (.int v2), some (.int v3), some (.int (M.1 (p + 1) v3.toNatClampNeg))], [.ref p, .ref p], (mm_pi (mm_pi M (p + 3) (M.1 (p + 1) v3.toNatClampNeg).toNatClampNeg ((M.1 (p + 3) (M.1 (p + 1) v3.toNatClampNeg).toNatClampNeg) + (1 : Int32))) p 4 (((mm_pi M (p + 3) (M.1 (p + 1) v3.toNatClampNeg).toNatClampNeg ((M.1 (p + 3) (M.1 (p + 1) v3.toNatClampNeg).toNatClampNeg) + (1 : Int32))).1 p 4) + (1 : Int32))))) (by decide +kernel) (hO := mm_own_99) rfl ?_
        refine mm_R_getf (ci := 7) (j := 5) (f := .inr .int) rfl rfl (mm_isC_f5 hC) ?_
        show mm_Runs L xs (d + 1) 99 (81, [some (.ref p), z1, some (.int v2), some (.int v3), some (.int (M.1 (p + 1) v3.toNatClampNeg))], [.int ((mm_pi (mm_pi M (p + 3) (M.1 (p + 1) v3.toNatClampNeg).toNatClampNeg ((M.1 (p + 3) (M.1 (p + 1) v3.toNatClampNeg).toNatClampNeg) + (1 : Int32))) p 4 (((mm_pi M (p + 3) (M.1 (p + 1) v3.toNatClampNeg).toNatClampNeg ((M.1 (p + 3) (M.1 (p + 1) v3.toNatClampNeg).toNatClampNeg) + (1 : Int32))).1 p 4) + (1 : Int32))).1 p 5), .ref p], (mm_pi (mm_pi M (p + 3) (M.1 (p + 1) v3.toNatClampNeg).toNatClampNeg ((M.1 (p + 3) (M.1 (p + 1) v3.toNatClampNeg).toNatClampNeg) + (1 : Int32))) p 4 (((mm_pi M (p + 3) (M.1 (p + 1) v3.toNatClampNeg).toNatClampNeg ((M.1 (p + 3) (M.1 (p + 1) v3.toNatClampNeg).toNatClampNeg) + (1 : Int32))).1 p 4) + (1 : Int32)))) o
        refine mm_Runs.seq (l := [(81, .ldc 41, 2), (83, .iload 4, 2), (85, .ishr, 1), (86, .iadd, 1)]) (S2 := (87, [some (.ref p), z1, some (.int v2), some (.int v3), some (.int (M.1 (p + 1) v3.toNatClampNeg))], [.int (((mm_pi (mm_pi M (p + 3) (M.1 (p + 1) v3.toNatClampNeg).toNatClampNeg ((M.1 (p + 3) (M.1 (p + 1) v3.toNatClampNeg).toNatClampNeg) + (1 : Int32))) p 4 (((mm_pi M (p + 3) (M.1 (p + 1) v3.toNatClampNeg).toNatClampNeg ((M.1 (p + 3) (M.1 (p + 1) v3.toNatClampNeg).toNatClampNeg) + (1 : Int32))).1 p 4) + (1 : Int32))).1 p 5) + (mm_shr (1048576 : Int32) (M.1 (p + 1) v3.toNatClampNeg))), .ref p], (mm_pi (mm_pi M (p + 3) (M.1 (p + 1) v3.toNatClampNeg).toNatClampNeg ((M.1 (p + 3) (M.1 (p + 1) v3.toNatClampNeg).toNatClampNeg) + (1 : Int32))) p 4 (((mm_pi M (p + 3) (M.1 (p + 1) v3.toNatClampNeg).toNatClampNeg ((M.1 (p + 3) (M.1 (p + 1) v3.toNatClampNeg).toNatClampNeg) + (1 : Int32))).1 p 4) + (1 : Int32))))) (by decide +kernel) (hO := mm_own_99) rfl ?_
        refine mm_R_putf (ci := 7) (j := 5) rfl rfl (mm_isC_f5 hC) ?_
        refine mm_Runs.seq (l := [(90, .iinc 3 1, 3), (93, .goto (-63), 3)]) (S2 := (30, [some (.ref p), z1, some (.int v2), some (.int (v3 + (1 : Int32))), some (.int (M.1 (p + 1) v3.toNatClampNeg))], [], (mm_pi (mm_pi (mm_pi M (p + 3) (M.1 (p + 1) v3.toNatClampNeg).toNatClampNeg ((M.1 (p + 3) (M.1 (p + 1) v3.toNatClampNeg).toNatClampNeg) + (1 : Int32))) p 4 (((mm_pi M (p + 3) (M.1 (p + 1) v3.toNatClampNeg).toNatClampNeg ((M.1 (p + 3) (M.1 (p + 1) v3.toNatClampNeg).toNatClampNeg) + (1 : Int32))).1 p 4) + (1 : Int32))) p 5 (((mm_pi (mm_pi M (p + 3) (M.1 (p + 1) v3.toNatClampNeg).toNatClampNeg ((M.1 (p + 3) (M.1 (p + 1) v3.toNatClampNeg).toNatClampNeg) + (1 : Int32))) p 4 (((mm_pi M (p + 3) (M.1 (p + 1) v3.toNatClampNeg).toNatClampNeg ((M.1 (p + 3) (M.1 (p + 1) v3.toNatClampNeg).toNatClampNeg) + (1 : Int32))).1 p 4) + (1 : Int32))).1 p 5) + (mm_shr (1048576 : Int32) (M.1 (p + 1) v3.toNatClampNeg)))))) (by decide +kernel) (hO := mm_own_99) rfl ?_
        cases h
        exact (show mp_99_30 L xs p n (d + 1) v2 (v3 + (1 : Int32)) (mm_pi (mm_pi (mm_pi M (p + 3) (M.1 (p + 1) v3.toNatClampNeg).toNatClampNeg ((M.1 (p + 3) (M.1 (p + 1) v3.toNatClampNeg).toNatClampNeg) + (1 : Int32))) p 4 (((mm_pi M (p + 3) (M.1 (p + 1) v3.toNatClampNeg).toNatClampNeg ((M.1 (p + 3) (M.1 (p + 1) v3.toNatClampNeg).toNatClampNeg) + (1 : Int32))).1 p 4) + (1 : Int32))) p 5 (((mm_pi (mm_pi M (p + 3) (M.1 (p + 1) v3.toNatClampNeg).toNatClampNeg ((M.1 (p + 3) (M.1 (p + 1) v3.toNatClampNeg).toNatClampNeg) + (1 : Int32))) p 4 (((mm_pi M (p + 3) (M.1 (p + 1) v3.toNatClampNeg).toNatClampNeg ((M.1 (p + 3) (M.1 (p + 1) v3.toNatClampNeg).toNatClampNeg) + (1 : Int32))).1 p 4) + (1 : Int32))).1 p 5) + (mm_shr (1048576 : Int32) (M.1 (p + 1) v3.toNatClampNeg)))) o from hA) z1 (some (.int (M.1 (p + 1) v3.toNatClampNeg)))
    · replace h := mm_iq hc h
      refine mm_Runs.seq (l := [(90, .iinc 3 1, 3), (93, .goto (-63), 3)]) (S2 := (30, [some (.ref p), z1, some (.int v2), some (.int (v3 + (1 : Int32))), some (.int (M.1 (p + 1) v3.toNatClampNeg))], [], M)) (by decide +kernel) (hO := mm_own_99) rfl ?_
      cases h
      exact (show mp_99_30 L xs p n (d + 1) v2 (v3 + (1 : Int32)) M o from hA) z1 (some (.int (M.1 (p + 1) v3.toNatClampNeg)))
  · replace h := mm_iq hc h
    cases h
    exact (show mp_99_96 L xs p n (d + 1) v2 M o from hA) z1 (some (.int v3)) z4
theorem ms_99_L30 {L : Nat} {xs : Nat → Int32} {p : Nat} {n : Nat} {d : Nat} (hC : mm_isC p n) (hd : 2 ≤ d) {v2 : Int32} {v3 : Int32} {β : Type} {K : β → mm_M → mm_E → Prop} {F : (Unit) → mm_M → mm_O β} {M : mm_M} {q : (β ⊕ Nat) × mm_M} {o : mm_E} (h : mm_B (mf_99_L30 p n v2 v3 M) F = some q) (hA : mm_A K q o) (hx : ∀ (r : (Unit)) (M2 : mm_M), F r M2 = some q → (fun r M o => mp_99_96 L xs p n (d) v2 M o) r M2 o) : mp_99_30 L xs p n d v2 v3 M o := mm_R_loop (s := v3) (M := M) (P := (fun s M o => mp_99_30 L xs p n (d) v2 s M o)) (X := (fun r M o => mp_99_96 L xs p n (d) v2 M o)) h hA (fun s M q hq hA => ms_99_b30 hC hd hq hA) hx
def mp_99_105 (L : Nat) (xs : Nat → Int32) (p : Nat) (n : Nat) (d : Nat) (v2 : Int32) (v3 : Int32) (M : mm_M) (o : mm_E) : Prop := ∀ z1 z4 : Option Value, mm_Runs L xs d 99 (105, [some (.ref p), z1, some (.int v2), some (.int v3), z4], [], M) o
def mp_99_149 (L : Nat) (xs : Nat → Int32) (p : Nat) (n : Nat) (d : Nat) (v2 : Int32) (M : mm_M) (o : mm_E) : Prop := ∀ z1 z3 z4 : Option Value, mm_Runs L xs d 99 (149, [some (.ref p), z1, some (.int v2), z3, z4], [], M) o
def mp_99_141 (L : Nat) (xs : Nat → Int32) (p : Nat) (n : Nat) (d : Nat) (v2 : Int32) (v3 : Int32) (s1 : Int32) (s2 : Int32) (s3 : Int32) (M : mm_M) (o : mm_E) : Prop := ∀ z1 z4 : Option Value, mm_Runs L xs d 99 (141, [some (.ref p), z1, some (.int v2), some (.int v3), z4], [.int s3, .int s2, .int s1, .ref (p + 4)], M) o
noncomputable def mf_99_j141 (p : Nat) (n : Nat) (v2 : Int32) (v3 : Int32) (s1 : Int32) (s2 : Int32) (s3 : Int32) (M : mm_M) : mm_O ((Int32) ⊕ (Unit)) := if mm_in s1 21 then some (.inl (.inl (v3 + (1 : Int32))), (mm_pi M (p + 4) s1.toNatClampNeg (s2 + s3))) else none
set_option maxRecDepth 8000 in
set_option maxHeartbeats 4000000 in
theorem ms_99_j141 {L : Nat} {xs : Nat → Int32} {p : Nat} {n : Nat} {d : Nat} (hC : mm_isC p n) (hd : 2 ≤ d) {v2 : Int32} {v3 : Int32} {s1 : Int32} {s2 : Int32} {s3 : Int32} {M : mm_M} {q : (((Int32) ⊕ (Unit)) ⊕ Nat) × mm_M} {o : mm_E} (h : mf_99_j141 p n v2 v3 s1 s2 s3 M = some q) (hA : mm_A (mm_K2 (fun s M o => mp_99_105 L xs p n (d) v2 s M o) (fun r M o => mp_99_149 L xs p n (d) v2 M o)) q o) : mp_99_141 L xs p n d v2 v3 s1 s2 s3 M o := by
  unfold mf_99_j141 at h
  obtain ⟨d, rfl⟩ := mm_d1 (n := 1) hd
  intro z1 z4
  show mm_Runs L xs (d + 1) 99 (141, [some (.ref p), z1, some (.int v2), some (.int v3), z4], [.int s3, .int s2, .int s1, .ref (p + 4)], M) o
  refine mm_Runs.seq (l := [(141, .iadd, 1)]) (S2 := (142, [some (.ref p), z1, some (.int v2), some (.int v3), z4], [.int (s2 + s3), .int s1, .ref (p + 4)], M)) (by decide +kernel) (hO := mm_own_99) rfl ?_
  obtain ⟨hb, h⟩ := mm_gd h
  refine mm_R_iast rfl (mm_isC_a4 hC) hb ?_
  refine mm_Runs.seq (l := [(143, .iinc 3 1, 3), (146, .goto (-41), 3)]) (S2 := (105, [some (.ref p), z1, some (.int v2), some (.int (v3 + (1 : Int32))), z4], [], (mm_pi M (p + 4) s1.toNatClampNeg (s2 + s3)))) (by decide +kernel) (hO := mm_own_99) rfl ?_
  cases h
  exact (show mp_99_105 L xs p n (d + 1) v2 (v3 + (1 : Int32)) (mm_pi M (p + 4) s1.toNatClampNeg (s2 + s3)) o from hA) z1 z4
noncomputable def mf_99_b105 (p : Nat) (n : Nat) (v2 : Int32) (v3 : Int32) (M : mm_M) : mm_O ((Int32) ⊕ (Unit)) := if (20 : Int32) < v3 then (some (.inl (.inr ()), M)) else (if mm_in (v3 - (1 : Int32)) 21 then if (1 : Int32) < v3 then (if mm_in (v3 - (1 : Int32)) 21 then mf_99_j141 p n v2 v3 v3 (M.1 (p + 4) (v3 - (1 : Int32)).toNatClampNeg) (M.1 (p + 3) (v3 - (1 : Int32)).toNatClampNeg) M else none) else (mf_99_j141 p n v2 v3 v3 (M.1 (p + 4) (v3 - (1 : Int32)).toNatClampNeg) (0 : Int32) M) else none)
noncomputable def mf_99_L105 (p : Nat) (n : Nat) (v2 : Int32) (s : Int32) (M : mm_M) : mm_O (Unit) := mm_L (fun s M => mf_99_b105 p n v2 s M) s M
set_option maxRecDepth 8000 in
set_option maxHeartbeats 4000000 in
theorem ms_99_b105 {L : Nat} {xs : Nat → Int32} {p : Nat} {n : Nat} {d : Nat} (hC : mm_isC p n) (hd : 2 ≤ d) {v2 : Int32} {v3 : Int32} {M : mm_M} {q : (((Int32) ⊕ (Unit)) ⊕ Nat) × mm_M} {o : mm_E} (h : mf_99_b105 p n v2 v3 M = some q) (hA : mm_A (mm_K2 (fun s M o => mp_99_105 L xs p n (d) v2 s M o) (fun r M o => mp_99_149 L xs p n (d) v2 M o)) q o) : mp_99_105 L xs p n d v2 v3 M o := by
  unfold mf_99_b105 at h
  obtain ⟨d, rfl⟩ := mm_d1 (n := 1) hd
  intro z1 z4
  show mm_Runs L xs (d + 1) 99 (105, [some (.ref p), z1, some (.int v2), some (.int v3), z4], [], M) o
  refine mm_Runs.seq (l := [(105, .iload_n 3, 1), (106, .bipush 20, 2)]) (S2 := (108, [some (.ref p), z1, some (.int v2), some (.int v3), z4], [.int (20 : Int32), .int v3], M)) (by decide +kernel) (hO := mm_own_99) rfl ?_
  refine mm_R_igt (t := 149) rfl rfl rfl (fun hc => ?_) (fun hc => ?_)
  · replace h := mm_ip hc h
    cases h
    exact (show mp_99_149 L xs p n (d + 1) v2 M o from hA) z1 (some (.int v3)) z4
  · replace h := mm_iq hc h
    refine mm_Runs.seq (l := [(111, .aload_n 0, 1)]) (S2 := (112, [some (.ref p), z1, some (.int v2), some (.int v3), z4], [.ref p], M)) (by decide +kernel) (hO := mm_own_99) rfl ?_
    refine mm_R_getf (ci := 7) (j := 3) (f := .inl (p + 4)) rfl rfl (mm_isC_f3 hC) ?_
    show mm_Runs L xs (d + 1) 99 (115, [some (.ref p), z1, some (.int v2), some (.int v3), z4], [.ref (p + 4)], M) o
    refine mm_Runs.seq (l := [(115, .iload_n 3, 1), (116, .aload_n 0, 1)]) (S2 := (117, [some (.ref p), z1, some (.int v2), some (.int v3), z4], [.ref p, .int v3, .ref (p + 4)], M)) (by decide +kernel) (hO := mm_own_99) rfl ?_
    refine mm_R_getf (ci := 7) (j := 3) (f := .inl (p + 4)) rfl rfl (mm_isC_f3 hC) ?_
    show mm_Runs L xs (d + 1) 99 (120, [some (.ref p), z1, some (.int v2), some (.int v3), z4], [.ref (p + 4), .int v3, .ref (p + 4)], M) o
    refine mm_Runs.seq (l := [(120, .iload_n 3, 1), (121, .iconst 1, 1), (122, .isub, 1)]) (S2 := (123, [some (.ref p), z1, some (.int v2), some (.int v3), z4], [.int (v3 - (1 : Int32)), .ref (p + 4), .int v3, .ref (p + 4)], M)) (by decide +kernel) (hO := mm_own_99) rfl ?_
    obtain ⟨hb, h⟩ := mm_gd h
    refine mm_R_iald rfl (mm_isC_a4 hC) hb ?_
    refine mm_Runs.seq (l := [(124, .iload_n 3, 1), (125, .iconst 1, 1)]) (S2 := (126, [some (.ref p), z1, some (.int v2), some (.int v3), z4], [.int (1 : Int32), .int v3, .int (M.1 (p + 4) (v3 - (1 : Int32)).toNatClampNeg), .int v3, .ref (p + 4)], M)) (by decide +kernel) (hO := mm_own_99) rfl ?_
    refine mm_R_ile (t := 140) rfl rfl rfl (fun hc => ?_) (fun hc => ?_)
    · replace h := mm_ip hc h
      refine mm_Runs.seq (l := [(129, .aload_n 0, 1)]) (S2 := (130, [some (.ref p), z1, some (.int v2), some (.int v3), z4], [.ref p, .int (M.1 (p + 4) (v3 - (1 : Int32)).toNatClampNeg), .int v3, .ref (p + 4)], M)) (by decide +kernel) (hO := mm_own_99) rfl ?_
      refine mm_R_getf (ci := 7) (j := 2) (f := .inl (p + 3)) rfl rfl (mm_isC_f2 hC) ?_
      show mm_Runs L xs (d + 1) 99 (133, [some (.ref p), z1, some (.int v2), some (.int v3), z4], [.ref (p + 3), .int (M.1 (p + 4) (v3 - (1 : Int32)).toNatClampNeg), .int v3, .ref (p + 4)], M) o
      refine mm_Runs.seq (l := [(133, .iload_n 3, 1), (134, .iconst 1, 1), (135, .isub, 1)]) (S2 := (136, [some (.ref p), z1, some (.int v2), some (.int v3), z4], [.int (v3 - (1 : Int32)), .ref (p + 3), .int (M.1 (p + 4) (v3 - (1 : Int32)).toNatClampNeg), .int v3, .ref (p + 4)], M)) (by decide +kernel) (hO := mm_own_99) rfl ?_
      obtain ⟨hb, h⟩ := mm_gd h
      refine mm_R_iald rfl (mm_isC_a3 hC) hb ?_
      refine mm_Runs.seq (l := [(137, .goto 4, 3)]) (S2 := (141, [some (.ref p), z1, some (.int v2), some (.int v3), z4], [.int (M.1 (p + 3) (v3 - (1 : Int32)).toNatClampNeg), .int (M.1 (p + 4) (v3 - (1 : Int32)).toNatClampNeg), .int v3, .ref (p + 4)], M)) (by decide +kernel) (hO := mm_own_99) rfl ?_
      exact (ms_99_j141 hC hd h hA : mp_99_141 L xs p n (d + 1) v2 v3 v3 (M.1 (p + 4) (v3 - (1 : Int32)).toNatClampNeg) (M.1 (p + 3) (v3 - (1 : Int32)).toNatClampNeg) M o) z1 z4
    · replace h := mm_iq hc h
      refine mm_Runs.seq (l := [(140, .iconst 0, 1)]) (S2 := (141, [some (.ref p), z1, some (.int v2), some (.int v3), z4], [.int (0 : Int32), .int (M.1 (p + 4) (v3 - (1 : Int32)).toNatClampNeg), .int v3, .ref (p + 4)], M)) (by decide +kernel) (hO := mm_own_99) rfl ?_
      exact (ms_99_j141 hC hd h hA : mp_99_141 L xs p n (d + 1) v2 v3 v3 (M.1 (p + 4) (v3 - (1 : Int32)).toNatClampNeg) (0 : Int32) M o) z1 z4
theorem ms_99_L105 {L : Nat} {xs : Nat → Int32} {p : Nat} {n : Nat} {d : Nat} (hC : mm_isC p n) (hd : 2 ≤ d) {v2 : Int32} {v3 : Int32} {β : Type} {K : β → mm_M → mm_E → Prop} {F : (Unit) → mm_M → mm_O β} {M : mm_M} {q : (β ⊕ Nat) × mm_M} {o : mm_E} (h : mm_B (mf_99_L105 p n v2 v3 M) F = some q) (hA : mm_A K q o) (hx : ∀ (r : (Unit)) (M2 : mm_M), F r M2 = some q → (fun r M o => mp_99_149 L xs p n (d) v2 M o) r M2 o) : mp_99_105 L xs p n d v2 v3 M o := mm_R_loop (s := v3) (M := M) (P := (fun s M o => mp_99_105 L xs p n (d) v2 s M o)) (X := (fun r M o => mp_99_149 L xs p n (d) v2 M o)) h hA (fun s M q hq hA => ms_99_b105 hC hd hq hA) hx
def mp_99_151 (L : Nat) (xs : Nat → Int32) (p : Nat) (n : Nat) (d : Nat) (v2 : Int32) (v3 : Int32) (M : mm_M) (o : mm_E) : Prop := ∀ z1 z4 : Option Value, mm_Runs L xs d 99 (151, [some (.ref p), z1, some (.int v2), some (.int v3), z4], [], M) o
def mp_99_206 (L : Nat) (xs : Nat → Int32) (p : Nat) (n : Nat) (d : Nat) (M : mm_M) (o : mm_E) : Prop := ∀ z0 z1 z2 z3 z4 : Option Value, mm_Runs L xs d 99 (206, [z0, z1, z2, z3, z4], [], M) o
noncomputable def mf_99_b151 (p : Nat) (n : Nat) (v2 : Int32) (v3 : Int32) (M : mm_M) : mm_O ((Int32) ⊕ (Unit)) := if v3 < v2 then (if mm_in v3 n then if 0 < (M.1 (p + 1) v3.toNatClampNeg) then (if (20 : Int32) < (M.1 (p + 1) v3.toNatClampNeg) then (some (.inl (.inl (v3 + (1 : Int32))), M)) else (if mm_in (M.1 (p + 1) v3.toNatClampNeg) 21 then if mm_in (M.1 (p + 4) (M.1 (p + 1) v3.toNatClampNeg).toNatClampNeg) n then if mm_in (M.1 (p + 1) v3.toNatClampNeg) 21 then if mm_in (M.1 (p + 1) v3.toNatClampNeg) 21 then some (.inl (.inl (v3 + (1 : Int32))), (mm_pi (mm_pi M (p + 2) (M.1 (p + 4) (M.1 (p + 1) v3.toNatClampNeg).toNatClampNeg).toNatClampNeg v3) (p + 4) (M.1 (p + 1) v3.toNatClampNeg).toNatClampNeg (((mm_pi M (p + 2) (M.1 (p + 4) (M.1 (p + 1) v3.toNatClampNeg).toNatClampNeg).toNatClampNeg v3).1 (p + 4) (M.1 (p + 1) v3.toNatClampNeg).toNatClampNeg) + (1 : Int32)))) else none else none else none else none)) else (some (.inl (.inl (v3 + (1 : Int32))), M)) else none) else (some (.inl (.inr ()), M))
noncomputable def mf_99_L151 (p : Nat) (n : Nat) (v2 : Int32) (s : Int32) (M : mm_M) : mm_O (Unit) := mm_L (fun s M => mf_99_b151 p n v2 s M) s M
set_option maxRecDepth 8000 in
set_option maxHeartbeats 4000000 in
theorem ms_99_b151 {L : Nat} {xs : Nat → Int32} {p : Nat} {n : Nat} {d : Nat} (hC : mm_isC p n) (hd : 2 ≤ d) {v2 : Int32} {v3 : Int32} {M : mm_M} {q : (((Int32) ⊕ (Unit)) ⊕ Nat) × mm_M} {o : mm_E} (h : mf_99_b151 p n v2 v3 M = some q) (hA : mm_A (mm_K2 (fun s M o => mp_99_151 L xs p n (d) v2 s M o) (fun r M o => mp_99_206 L xs p n (d) M o)) q o) : mp_99_151 L xs p n d v2 v3 M o := by
  unfold mf_99_b151 at h
  obtain ⟨d, rfl⟩ := mm_d1 (n := 1) hd
  intro z1 z4
  show mm_Runs L xs (d + 1) 99 (151, [some (.ref p), z1, some (.int v2), some (.int v3), z4], [], M) o
  refine mm_Runs.seq (l := [(151, .iload_n 3, 1), (152, .iload_n 2, 1)]) (S2 := (153, [some (.ref p), z1, some (.int v2), some (.int v3), z4], [.int v2, .int v3], M)) (by decide +kernel) (hO := mm_own_99) rfl ?_
  refine mm_R_ige (t := 206) rfl rfl rfl (fun hc => ?_) (fun hc => ?_)
  · replace h := mm_ip hc h
    refine mm_Runs.seq (l := [(156, .aload_n 0, 1)]) (S2 := (157, [some (.ref p), z1, some (.int v2), some (.int v3), z4], [.ref p], M)) (by decide +kernel) (hO := mm_own_99) rfl ?_
    refine mm_R_getf (ci := 7) (j := 0) (f := .inl (p + 1)) rfl rfl (mm_isC_f0 hC) ?_
    show mm_Runs L xs (d + 1) 99 (160, [some (.ref p), z1, some (.int v2), some (.int v3), z4], [.ref (p + 1)], M) o
    refine mm_Runs.seq (l := [(160, .iload_n 3, 1)]) (S2 := (161, [some (.ref p), z1, some (.int v2), some (.int v3), z4], [.int v3, .ref (p + 1)], M)) (by decide +kernel) (hO := mm_own_99) rfl ?_
    obtain ⟨hb, h⟩ := mm_gd h
    refine mm_R_iald rfl (mm_isC_a1 hC) hb ?_
    refine mm_Runs.seq (l := [(162, .istore 4, 2), (164, .iload 4, 2)]) (S2 := (166, [some (.ref p), z1, some (.int v2), some (.int v3), some (.int (M.1 (p + 1) v3.toNatClampNeg))], [.int (M.1 (p + 1) v3.toNatClampNeg)], M)) (by decide +kernel) (hO := mm_own_99) rfl ?_
    refine mm_R_zle (t := 200) rfl rfl rfl (fun hc => ?_) (fun hc => ?_)
    · replace h := mm_ip hc h
      refine mm_Runs.seq (l := [(169, .iload 4, 2), (171, .bipush 20, 2)]) (S2 := (173, [some (.ref p), z1, some (.int v2), some (.int v3), some (.int (M.1 (p + 1) v3.toNatClampNeg))], [.int (20 : Int32), .int (M.1 (p + 1) v3.toNatClampNeg)], M)) (by decide +kernel) (hO := mm_own_99) rfl ?_
      refine mm_R_igt (t := 200) rfl rfl rfl (fun hc => ?_) (fun hc => ?_)
      · replace h := mm_ip hc h
        refine mm_Runs.seq (l := [(200, .iinc 3 1, 3), (203, .goto (-52), 3)]) (S2 := (151, [some (.ref p), z1, some (.int v2), some (.int (v3 + (1 : Int32))), some (.int (M.1 (p + 1) v3.toNatClampNeg))], [], M)) (by decide +kernel) (hO := mm_own_99) rfl ?_
        cases h
        exact (show mp_99_151 L xs p n (d + 1) v2 (v3 + (1 : Int32)) M o from hA) z1 (some (.int (M.1 (p + 1) v3.toNatClampNeg)))
      · replace h := mm_iq hc h
        refine mm_Runs.seq (l := [(176, .aload_n 0, 1)]) (S2 := (177, [some (.ref p), z1, some (.int v2), some (.int v3), some (.int (M.1 (p + 1) v3.toNatClampNeg))], [.ref p], M)) (by decide +kernel) (hO := mm_own_99) rfl ?_
        refine mm_R_getf (ci := 7) (j := 1) (f := .inl (p + 2)) rfl rfl (mm_isC_f1 hC) ?_
        show mm_Runs L xs (d + 1) 99 (180, [some (.ref p), z1, some (.int v2), some (.int v3), some (.int (M.1 (p + 1) v3.toNatClampNeg))], [.ref (p + 2)], M) o
        refine mm_Runs.seq (l := [(180, .aload_n 0, 1)]) (S2 := (181, [some (.ref p), z1, some (.int v2), some (.int v3), some (.int (M.1 (p + 1) v3.toNatClampNeg))], [.ref p, .ref (p + 2)], M)) (by decide +kernel) (hO := mm_own_99) rfl ?_
        refine mm_R_getf (ci := 7) (j := 3) (f := .inl (p + 4)) rfl rfl (mm_isC_f3 hC) ?_
        show mm_Runs L xs (d + 1) 99 (184, [some (.ref p), z1, some (.int v2), some (.int v3), some (.int (M.1 (p + 1) v3.toNatClampNeg))], [.ref (p + 4), .ref (p + 2)], M) o
        refine mm_Runs.seq (l := [(184, .iload 4, 2)]) (S2 := (186, [some (.ref p), z1, some (.int v2), some (.int v3), some (.int (M.1 (p + 1) v3.toNatClampNeg))], [.int (M.1 (p + 1) v3.toNatClampNeg), .ref (p + 4), .ref (p + 2)], M)) (by decide +kernel) (hO := mm_own_99) rfl ?_
        obtain ⟨hb, h⟩ := mm_gd h
        refine mm_R_iald rfl (mm_isC_a4 hC) hb ?_
        refine mm_Runs.seq (l := [(187, .iload_n 3, 1)]) (S2 := (188, [some (.ref p), z1, some (.int v2), some (.int v3), some (.int (M.1 (p + 1) v3.toNatClampNeg))], [.int v3, .int (M.1 (p + 4) (M.1 (p + 1) v3.toNatClampNeg).toNatClampNeg), .ref (p + 2)], M)) (by decide +kernel) (hO := mm_own_99) rfl ?_
        obtain ⟨hb, h⟩ := mm_gd h
        refine mm_R_iast rfl (mm_isC_a2 hC) hb ?_
        refine mm_Runs.seq (l := [(189, .aload_n 0, 1)]) (S2 := (190, [some (.ref p), z1, some (.int v2), some (.int v3), some (.int (M.1 (p + 1) v3.toNatClampNeg))], [.ref p], (mm_pi M (p + 2) (M.1 (p + 4) (M.1 (p + 1) v3.toNatClampNeg).toNatClampNeg).toNatClampNeg v3))) (by decide +kernel) (hO := mm_own_99) rfl ?_
        refine mm_R_getf (ci := 7) (j := 3) (f := .inl (p + 4)) rfl rfl (mm_isC_f3 hC) ?_
        show mm_Runs L xs (d + 1) 99 (193, [some (.ref p), z1, some (.int v2), some (.int v3), some (.int (M.1 (p + 1) v3.toNatClampNeg))], [.ref (p + 4)], (mm_pi M (p + 2) (M.1 (p + 4) (M.1 (p + 1) v3.toNatClampNeg).toNatClampNeg).toNatClampNeg v3)) o
        refine mm_Runs.seq (l := [(193, .iload 4, 2), (195, .dup2, 1)]) (S2 := (196, [some (.ref p), z1, some (.int v2), some (.int v3), some (.int (M.1 (p + 1) v3.toNatClampNeg))], [.int (M.1 (p + 1) v3.toNatClampNeg), .ref (p + 4), .int (M.1 (p + 1) v3.toNatClampNeg), .ref (p + 4)], (mm_pi M (p + 2) (M.1 (p + 4) (M.1 (p + 1) v3.toNatClampNeg).toNatClampNeg).toNatClampNeg v3))) (by decide +kernel) (hO := mm_own_99) rfl ?_
        obtain ⟨hb, h⟩ := mm_gd h
        refine mm_R_iald rfl (mm_isC_a4 hC) hb ?_
        refine mm_Runs.seq (l := [(197, .iconst 1, 1), (198, .iadd, 1)]) (S2 := (199, [some (.ref p), z1, some (.int v2), some (.int v3), some (.int (M.1 (p + 1) v3.toNatClampNeg))], [.int (((mm_pi M (p + 2) (M.1 (p + 4) (M.1 (p + 1) v3.toNatClampNeg).toNatClampNeg).toNatClampNeg v3).1 (p + 4) (M.1 (p + 1) v3.toNatClampNeg).toNatClampNeg) + (1 : Int32)), .int (M.1 (p + 1) v3.toNatClampNeg), .ref (p + 4)], (mm_pi M (p + 2) (M.1 (p + 4) (M.1 (p + 1) v3.toNatClampNeg).toNatClampNeg).toNatClampNeg v3))) (by decide +kernel) (hO := mm_own_99) rfl ?_
        obtain ⟨hb, h⟩ := mm_gd h
        refine mm_R_iast rfl (mm_isC_a4 hC) hb ?_
        refine mm_Runs.seq (l := [(200, .iinc 3 1, 3), (203, .goto (-52), 3)]) (S2 := (151, [some (.ref p), z1, some (.int v2), some (.int (v3 + (1 : Int32))), some (.int (M.1 (p + 1) v3.toNatClampNeg))], [], (mm_pi (mm_pi M (p + 2) (M.1 (p + 4) (M.1 (p + 1) v3.toNatClampNeg).toNatClampNeg).toNatClampNeg v3) (p + 4) (M.1 (p + 1) v3.toNatClampNeg).toNatClampNeg (((mm_pi M (p + 2) (M.1 (p + 4) (M.1 (p + 1) v3.toNatClampNeg).toNatClampNeg).toNatClampNeg v3).1 (p + 4) (M.1 (p + 1) v3.toNatClampNeg).toNatClampNeg) + (1 : Int32))))) (by decide +kernel) (hO := mm_own_99) rfl ?_
        cases h
        exact (show mp_99_151 L xs p n (d + 1) v2 (v3 + (1 : Int32)) (mm_pi (mm_pi M (p + 2) (M.1 (p + 4) (M.1 (p + 1) v3.toNatClampNeg).toNatClampNeg).toNatClampNeg v3) (p + 4) (M.1 (p + 1) v3.toNatClampNeg).toNatClampNeg (((mm_pi M (p + 2) (M.1 (p + 4) (M.1 (p + 1) v3.toNatClampNeg).toNatClampNeg).toNatClampNeg v3).1 (p + 4) (M.1 (p + 1) v3.toNatClampNeg).toNatClampNeg) + (1 : Int32))) o from hA) z1 (some (.int (M.1 (p + 1) v3.toNatClampNeg)))
    · replace h := mm_iq hc h
      refine mm_Runs.seq (l := [(200, .iinc 3 1, 3), (203, .goto (-52), 3)]) (S2 := (151, [some (.ref p), z1, some (.int v2), some (.int (v3 + (1 : Int32))), some (.int (M.1 (p + 1) v3.toNatClampNeg))], [], M)) (by decide +kernel) (hO := mm_own_99) rfl ?_
      cases h
      exact (show mp_99_151 L xs p n (d + 1) v2 (v3 + (1 : Int32)) M o from hA) z1 (some (.int (M.1 (p + 1) v3.toNatClampNeg)))
  · replace h := mm_iq hc h
    cases h
    exact (show mp_99_206 L xs p n (d + 1) M o from hA) (some (.ref p)) z1 (some (.int v2)) (some (.int v3)) z4
theorem ms_99_L151 {L : Nat} {xs : Nat → Int32} {p : Nat} {n : Nat} {d : Nat} (hC : mm_isC p n) (hd : 2 ≤ d) {v2 : Int32} {v3 : Int32} {β : Type} {K : β → mm_M → mm_E → Prop} {F : (Unit) → mm_M → mm_O β} {M : mm_M} {q : (β ⊕ Nat) × mm_M} {o : mm_E} (h : mm_B (mf_99_L151 p n v2 v3 M) F = some q) (hA : mm_A K q o) (hx : ∀ (r : (Unit)) (M2 : mm_M), F r M2 = some q → (fun r M o => mp_99_206 L xs p n (d) M o) r M2 o) : mp_99_151 L xs p n d v2 v3 M o := mm_R_loop (s := v3) (M := M) (P := (fun s M o => mp_99_151 L xs p n (d) v2 s M o)) (X := (fun r M o => mp_99_206 L xs p n (d) M o)) h hA (fun s M q hq hA => ms_99_b151 hC hd hq hA) hx
noncomputable def mf_99_j96 (p : Nat) (n : Nat) (v2 : Int32) (M : mm_M) : mm_O Unit := if mm_in (0 : Int32) 21 then mm_B (mf_99_L105 p n v2 (1 : Int32) (mm_pi M (p + 4) (0 : Int32).toNatClampNeg (0 : Int32))) (fun r2 M1 => mm_B (mf_99_L151 p n v2 (0 : Int32) M1) (fun r7 M6 => some (.inl (), M6))) else none
set_option maxRecDepth 8000 in
set_option maxHeartbeats 4000000 in
theorem ms_99_j96 {L : Nat} {xs : Nat → Int32} {p : Nat} {n : Nat} {d : Nat} (hC : mm_isC p n) (hd : 2 ≤ d) {v2 : Int32} {M : mm_M} {q : (Unit ⊕ Nat) × mm_M} {o : mm_E} (h : mf_99_j96 p n v2 M = some q) (hA : mm_A (mm_Kr mm_wv) q o) : mp_99_96 L xs p n d v2 M o := by
  unfold mf_99_j96 at h
  obtain ⟨d, rfl⟩ := mm_d1 (n := 1) hd
  intro z1 z3 z4
  show mm_Runs L xs (d + 1) 99 (96, [some (.ref p), z1, some (.int v2), z3, z4], [], M) o
  refine mm_Runs.seq (l := [(96, .aload_n 0, 1)]) (S2 := (97, [some (.ref p), z1, some (.int v2), z3, z4], [.ref p], M)) (by decide +kernel) (hO := mm_own_99) rfl ?_
  refine mm_R_getf (ci := 7) (j := 3) (f := .inl (p + 4)) rfl rfl (mm_isC_f3 hC) ?_
  show mm_Runs L xs (d + 1) 99 (100, [some (.ref p), z1, some (.int v2), z3, z4], [.ref (p + 4)], M) o
  refine mm_Runs.seq (l := [(100, .iconst 0, 1), (101, .iconst 0, 1)]) (S2 := (102, [some (.ref p), z1, some (.int v2), z3, z4], [.int (0 : Int32), .int (0 : Int32), .ref (p + 4)], M)) (by decide +kernel) (hO := mm_own_99) rfl ?_
  obtain ⟨hb, h⟩ := mm_gd h
  refine mm_R_iast rfl (mm_isC_a4 hC) hb ?_
  refine mm_Runs.seq (l := [(103, .iconst 1, 1), (104, .istore_n 3, 1)]) (S2 := (105, [some (.ref p), z1, some (.int v2), some (.int (1 : Int32)), z4], [], (mm_pi M (p + 4) (0 : Int32).toNatClampNeg (0 : Int32)))) (by decide +kernel) (hO := mm_own_99) rfl ?_
  have hp : mp_99_105 L xs p n (d + 1) v2 (1 : Int32) (mm_pi M (p + 4) (0 : Int32).toNatClampNeg (0 : Int32)) o := by
    refine ms_99_L105 hC hd h hA (fun r2 M1 h => ?_)
    intro y3 y4 y5
    show mm_Runs L xs (d + 1) 99 (149, [some (.ref p), y3, some (.int v2), y4, y5], [], M1) o
    refine mm_Runs.seq (l := [(149, .iconst 0, 1), (150, .istore_n 3, 1)]) (S2 := (151, [some (.ref p), y3, some (.int v2), some (.int (0 : Int32)), y5], [], M1)) (by decide +kernel) (hO := mm_own_99) rfl ?_
    have hp : mp_99_151 L xs p n (d + 1) v2 (0 : Int32) M1 o := by
      refine ms_99_L151 hC hd h hA (fun r7 M6 h => ?_)
      intro y8 y9 y10 y11 y12
      show mm_Runs L xs (d + 1) 99 (206, [y8, y9, y10, y11, y12], [], M6) o
      cases h
      exact mm_R_retv rfl rfl hA
    exact hp y3 y5
  exact hp z1 z4
noncomputable def mf_99 (p : Nat) (n : Nat) (v1 : Int32) (M : mm_M) : mm_O Unit := mm_B (mf_290 (p + 3) 21 (0 : Int32) M) (fun _ M1 => mm_B (mf_99_L30 p n (mm_min v1 (Int32.ofNat n)) (0 : Int32) (mm_pi (mm_pi M1 p 4 (0 : Int32)) p 5 (0 : Int32))) (fun r3 M2 => mf_99_j96 p n (mm_min v1 (Int32.ofNat n)) M2))
set_option maxRecDepth 8000 in
set_option maxHeartbeats 4000000 in
theorem ms_99 {L : Nat} {xs : Nat → Int32} {p : Nat} {n : Nat} {d : Nat} (hC : mm_isC p n) (hd : 2 ≤ d) {v1 : Int32} {M : mm_M} {q : (Unit ⊕ Nat) × mm_M} {o : mm_E} (h : mf_99 p n v1 M = some q) (hA : mm_A (mm_Kr mm_wv) q o) : mm_Runs L xs d 99 (0, mm_ent (mm_ml 99) [.ref p, .int v1], [], M) o := by
  unfold mf_99 at h
  obtain ⟨d, rfl⟩ := mm_d1 (n := 1) hd
  show mm_Runs L xs (d + 1) 99 (0, [some (.ref p), some (.int v1), none, none, none], [], M) o
  refine mm_Runs.seq (l := [(0, .iload_n 1, 1), (1, .aload_n 0, 1)]) (S2 := (2, [some (.ref p), some (.int v1), none, none, none], [.ref p, .int v1], M)) (by decide +kernel) (hO := mm_own_99) rfl ?_
  refine mm_R_getf (ci := 7) (j := 0) (f := .inl (p + 1)) rfl rfl (mm_isC_f0 hC) ?_
  show mm_Runs L xs (d + 1) 99 (5, [some (.ref p), some (.int v1), none, none, none], [.ref (p + 1), .int v1], M) o
  refine mm_R_alen rfl (mm_isC_a1 hC) ?_
  refine mm_R_intr (st2 := [.int (mm_min v1 (Int32.ofNat n))]) (M2 := M) rfl rfl (by omega) ?_
  refine mm_Runs.seq (l := [(9, .istore_n 2, 1), (10, .aload_n 0, 1)]) (S2 := (11, [some (.ref p), some (.int v1), some (.int (mm_min v1 (Int32.ofNat n))), none, none], [.ref p], M)) (by decide +kernel) (hO := mm_own_99) rfl ?_
  refine mm_R_getf (ci := 7) (j := 2) (f := .inl (p + 3)) rfl rfl (mm_isC_f2 hC) ?_
  show mm_Runs L xs (d + 1) 99 (14, [some (.ref p), some (.int v1), some (.int (mm_min v1 (Int32.ofNat n))), none, none], [.ref (p + 3)], M) o
  refine mm_Runs.seq (l := [(14, .iconst 0, 1)]) (S2 := (15, [some (.ref p), some (.int v1), some (.int (mm_min v1 (Int32.ofNat n))), none, none], [.int (0 : Int32), .ref (p + 3)], M)) (by decide +kernel) (hO := mm_own_99) rfl ?_
  refine mm_R_call (v := mm_wv) h hA (k2 := 290) (as := [.ref (p + 3), .int (0 : Int32)]) (r := []) rfl (fun _ => rfl) (fun q hq o ho => ms_290 (mm_isC_a3 hC) (by omega) hq ho) (fun _ M1 h => ?_)
  show mm_Runs L xs (d + 1) 99 (18, [some (.ref p), some (.int v1), some (.int (mm_min v1 (Int32.ofNat n))), none, none], [], M1) o
  refine mm_Runs.seq (l := [(18, .aload_n 0, 1), (19, .iconst 0, 1)]) (S2 := (20, [some (.ref p), some (.int v1), some (.int (mm_min v1 (Int32.ofNat n))), none, none], [.int (0 : Int32), .ref p], M1)) (by decide +kernel) (hO := mm_own_99) rfl ?_
  refine mm_R_putf (ci := 7) (j := 4) rfl rfl (mm_isC_f4 hC) ?_
  refine mm_Runs.seq (l := [(23, .aload_n 0, 1), (24, .iconst 0, 1)]) (S2 := (25, [some (.ref p), some (.int v1), some (.int (mm_min v1 (Int32.ofNat n))), none, none], [.int (0 : Int32), .ref p], (mm_pi M1 p 4 (0 : Int32)))) (by decide +kernel) (hO := mm_own_99) rfl ?_
  refine mm_R_putf (ci := 7) (j := 5) rfl rfl (mm_isC_f5 hC) ?_
  refine mm_Runs.seq (l := [(28, .iconst 0, 1), (29, .istore_n 3, 1)]) (S2 := (30, [some (.ref p), some (.int v1), some (.int (mm_min v1 (Int32.ofNat n))), some (.int (0 : Int32)), none], [], (mm_pi (mm_pi M1 p 4 (0 : Int32)) p 5 (0 : Int32)))) (by decide +kernel) (hO := mm_own_99) rfl ?_
  have hp : mp_99_30 L xs p n (d + 1) (mm_min v1 (Int32.ofNat n)) (0 : Int32) (mm_pi (mm_pi M1 p 4 (0 : Int32)) p 5 (0 : Int32)) o := by
    refine ms_99_L30 hC hd h hA (fun r3 M2 h => ?_)
    intro y4 y5 y6
    show mm_Runs L xs (d + 1) 99 (96, [some (.ref p), y4, some (.int (mm_min v1 (Int32.ofNat n))), y5, y6], [], M2) o
    exact (ms_99_j96 hC hd h hA : mp_99_96 L xs p n (d + 1) (mm_min v1 (Int32.ofNat n)) M2 o) y4 y5 y6
  exact hp (some (.int v1)) none
