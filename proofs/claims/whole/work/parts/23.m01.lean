/-! M -/
-- 44: PlainPacks$Source.next()I (depth 7)
theorem mm_own_44 : mm_own 44 = 1 := rfl
noncomputable def mf_44 (M : mm_M) : mm_O Int32 := if (M.1 1 2) < (M.1 1 3) then (if mm_in (M.1 1 2) 10000 then some (.inl (M.1 2 (M.1 1 2).toNatClampNeg), (mm_pi (mm_pi M 1 6 (0 : Int32)) 1 2 ((M.1 1 2) + (1 : Int32)))) else none) else (some (.inr 0, mm_th M))
set_option maxRecDepth 8000 in
set_option maxHeartbeats 4000000 in
theorem ms_44 {L : Nat} {xs : Nat → Int32} {d : Nat} (hd : 7 ≤ d) {M : mm_M} {q : (Int32 ⊕ Nat) × mm_M} {o : mm_E} (h : mf_44 M = some q) (hA : mm_A (mm_Kr mm_wi) q o) : mm_Runs L xs d 44 (0, mm_ent (mm_ml 44) [.ref 1], [], M) o := by
  unfold mf_44 at h
  show mm_Runs L xs (d) 44 (0, [some (.ref 1), none], [], M) o
  refine mm_Runs.seq (l := [(0, .aload_n 0, 1), (1, .getfield 19, 3), (4, .aload_n 0, 1), (5, .getfield 22, 3)]) (S2 := (8, [some (.ref 1), none], [.int (M.1 1 3), .int (M.1 1 2)], M)) (by decide +kernel) (hO := mm_own_44) rfl ?_
  refine mm_R_ilt (t := 21) rfl rfl rfl (fun hc => ?_) (fun hc => ?_)
  · replace h := mm_ip hc h
    refine mm_Runs.seq (l := [(21, .aload_n 0, 1), (22, .iconst 0, 1), (23, .putfield 32, 3), (26, .aload_n 0, 1), (27, .getfield 9, 3), (30, .aload_n 0, 1), (31, .getfield 19, 3)]) (S2 := (34, [some (.ref 1), none], [.int (M.1 1 2), .ref 2], (mm_pi M 1 6 (0 : Int32)))) (by decide +kernel) (hO := mm_own_44) rfl ?_
    obtain ⟨hb, h⟩ := mm_gd h
    refine mm_R_iald rfl rfl hb ?_
    refine mm_Runs.seq (l := [(35, .istore_n 1, 1), (36, .aload_n 0, 1), (37, .dup, 1), (38, .getfield 19, 3), (41, .iconst 1, 1), (42, .iadd, 1), (43, .putfield 19, 3), (46, .iload_n 1, 1)]) (S2 := (47, [some (.ref 1), some (.int (M.1 2 (M.1 1 2).toNatClampNeg))], [.int (M.1 2 (M.1 1 2).toNatClampNeg)], (mm_pi (mm_pi M 1 6 (0 : Int32)) 1 2 ((M.1 1 2) + (1 : Int32))))) (by decide +kernel) (hO := mm_own_44) rfl ?_
    cases h
    exact mm_R_reti rfl rfl hA
  · replace h := mm_iq hc h
    cases h
    exact mm_R_thr rfl rfl rfl (by omega) hA
-- 45: PlainPacks$Source.bit()I (depth 7)
theorem mm_own_45 : mm_own 45 = 1 := rfl
def mp_45_57 (L : Nat) (xs : Nat → Int32) (d : Nat) (M : mm_M) (o : mm_E) : Prop := mm_Runs L xs d 45 (57, [some (.ref 1)], [], M) o
noncomputable def mf_45_j57 (M : mm_M) : mm_O Int32 := if (M.1 1 4) = 0 then (some (.inl ((mm_shr (M.1 1 5) ((7 : Int32) - ((M.1 1 6) - (1 : Int32)))) &&& (1 : Int32)), (mm_pi M 1 6 ((M.1 1 6) - (1 : Int32))))) else (some (.inl ((mm_shr (M.1 1 5) ((M.1 1 6) - (1 : Int32))) &&& (1 : Int32)), (mm_pi M 1 6 ((M.1 1 6) - (1 : Int32)))))
set_option maxRecDepth 8000 in
set_option maxHeartbeats 4000000 in
theorem ms_45_j57 {L : Nat} {xs : Nat → Int32} {d : Nat} (hd : 7 ≤ d) {M : mm_M} {q : (Int32 ⊕ Nat) × mm_M} {o : mm_E} (h : mf_45_j57 M = some q) (hA : mm_A (mm_Kr mm_wi) q o) : mp_45_57 L xs d M o := by
  unfold mf_45_j57 at h
  show mm_Runs L xs (d) 45 (57, [some (.ref 1)], [], M) o
  refine mm_Runs.seq (l := [(57, .aload_n 0, 1), (58, .dup, 1), (59, .getfield 32, 3), (62, .iconst 1, 1), (63, .isub, 1), (64, .putfield 32, 3), (67, .aload_n 0, 1), (68, .getfield 25, 3)]) (S2 := (71, [some (.ref 1)], [.int (M.1 1 4)], (mm_pi M 1 6 ((M.1 1 6) - (1 : Int32))))) (by decide +kernel) (hO := mm_own_45) rfl ?_
  refine mm_R_zeq (t := 88) rfl rfl rfl (fun hc => ?_) (fun hc => ?_)
  · replace h := mm_ip hc h
    refine mm_Runs.seq (l := [(88, .aload_n 0, 1), (89, .getfield 29, 3), (92, .bipush 7, 2), (94, .aload_n 0, 1), (95, .getfield 32, 3), (98, .isub, 1), (99, .ishr, 1), (100, .iconst 1, 1), (101, .iand, 1)]) (S2 := (102, [some (.ref 1)], [.int ((mm_shr (M.1 1 5) ((7 : Int32) - ((M.1 1 6) - (1 : Int32)))) &&& (1 : Int32))], (mm_pi M 1 6 ((M.1 1 6) - (1 : Int32))))) (by decide +kernel) (hO := mm_own_45) rfl ?_
    cases h
    exact mm_R_reti rfl rfl hA
  · replace h := mm_iq hc h
    refine mm_Runs.seq (l := [(74, .aload_n 0, 1), (75, .getfield 29, 3), (78, .aload_n 0, 1), (79, .getfield 32, 3), (82, .ishr, 1), (83, .iconst 1, 1), (84, .iand, 1), (85, .goto 17, 3)]) (S2 := (102, [some (.ref 1)], [.int ((mm_shr (M.1 1 5) ((M.1 1 6) - (1 : Int32))) &&& (1 : Int32))], (mm_pi M 1 6 ((M.1 1 6) - (1 : Int32))))) (by decide +kernel) (hO := mm_own_45) rfl ?_
    cases h
    exact mm_R_reti rfl rfl hA
noncomputable def mf_45 (M : mm_M) : mm_O Int32 := if (M.1 1 6) = 0 then (if (M.1 1 2) < (M.1 1 3) then (if mm_in (M.1 1 2) 10000 then mf_45_j57 (mm_pi (mm_pi (mm_pi M 1 5 (M.1 2 (M.1 1 2).toNatClampNeg)) 1 2 ((M.1 1 2) + (1 : Int32))) 1 6 (8 : Int32)) else none) else (some (.inr 0, mm_th M))) else (mf_45_j57 M)
set_option maxRecDepth 8000 in
set_option maxHeartbeats 4000000 in
theorem ms_45 {L : Nat} {xs : Nat → Int32} {d : Nat} (hd : 7 ≤ d) {M : mm_M} {q : (Int32 ⊕ Nat) × mm_M} {o : mm_E} (h : mf_45 M = some q) (hA : mm_A (mm_Kr mm_wi) q o) : mm_Runs L xs d 45 (0, mm_ent (mm_ml 45) [.ref 1], [], M) o := by
  unfold mf_45 at h
  show mm_Runs L xs (d) 45 (0, [some (.ref 1)], [], M) o
  refine mm_Runs.seq (l := [(0, .aload_n 0, 1), (1, .getfield 32, 3)]) (S2 := (4, [some (.ref 1)], [.int (M.1 1 6)], M)) (by decide +kernel) (hO := mm_own_45) rfl ?_
  refine mm_R_zne (t := 57) rfl rfl rfl (fun hc => ?_) (fun hc => ?_)
  · replace h := mm_ip hc h
    refine mm_Runs.seq (l := [(7, .aload_n 0, 1), (8, .getfield 19, 3), (11, .aload_n 0, 1), (12, .getfield 22, 3)]) (S2 := (15, [some (.ref 1)], [.int (M.1 1 3), .int (M.1 1 2)], M)) (by decide +kernel) (hO := mm_own_45) rfl ?_
    refine mm_R_ilt (t := 28) rfl rfl rfl (fun hc => ?_) (fun hc => ?_)
    · replace h := mm_ip hc h
      refine mm_Runs.seq (l := [(28, .aload_n 0, 1), (29, .aload_n 0, 1), (30, .getfield 9, 3), (33, .aload_n 0, 1), (34, .getfield 19, 3)]) (S2 := (37, [some (.ref 1)], [.int (M.1 1 2), .ref 2, .ref 1], M)) (by decide +kernel) (hO := mm_own_45) rfl ?_
      obtain ⟨hb, h⟩ := mm_gd h
      refine mm_R_iald rfl rfl hb ?_
      refine mm_Runs.seq (l := [(38, .putfield 29, 3), (41, .aload_n 0, 1), (42, .dup, 1), (43, .getfield 19, 3), (46, .iconst 1, 1), (47, .iadd, 1), (48, .putfield 19, 3), (51, .aload_n 0, 1), (52, .bipush 8, 2), (54, .putfield 32, 3)]) (S2 := (57, [some (.ref 1)], [], (mm_pi (mm_pi (mm_pi M 1 5 (M.1 2 (M.1 1 2).toNatClampNeg)) 1 2 ((M.1 1 2) + (1 : Int32))) 1 6 (8 : Int32)))) (by decide +kernel) (hO := mm_own_45) rfl ?_
      exact (ms_45_j57 hd h hA : mp_45_57 L xs (d) (mm_pi (mm_pi (mm_pi M 1 5 (M.1 2 (M.1 1 2).toNatClampNeg)) 1 2 ((M.1 1 2) + (1 : Int32))) 1 6 (8 : Int32)) o)
    · replace h := mm_iq hc h
      cases h
      exact mm_R_thr rfl rfl rfl (by omega) hA
  · replace h := mm_iq hc h
    exact (ms_45_j57 hd h hA : mp_45_57 L xs (d) M o)
-- 46: PlainPacks$Source.bits(I)J (depth 8)
theorem mm_own_46 : mm_own 46 = 1 := rfl
def mp_46_5 (L : Nat) (xs : Nat → Int32) (d : Nat) (v1 : Int32) (v2 : Int64) (v4 : Int32) (M : mm_M) (o : mm_E) : Prop := ∀ z3 z5 z6 : Option Value, mm_Runs L xs d 46 (5, [some (.ref 1), some (.int v1), some (.long v2), z3, some (.int v4), z5, z6], [], M) o
def mp_46_48 (L : Nat) (xs : Nat → Int32) (d : Nat) (v2 : Int64) (M : mm_M) (o : mm_E) : Prop := ∀ z0 z1 z3 z4 z5 z6 : Option Value, mm_Runs L xs d 46 (48, [z0, z1, some (.long v2), z3, z4, z5, z6], [], M) o
noncomputable def mf_46_b5 (v1 : Int32) (v2 : Int64) (v4 : Int32) (M : mm_M) : mm_O ((Int64 × Int32) ⊕ (Int64)) := if v4 < v1 then (mm_B (mf_45 M) (fun r1 M2 => if (M2.1 1 4) = 0 then (some (.inl (.inl ((v2 ||| (mm_lshl r1.toInt64 v4)), (v4 + (1 : Int32)))), M2)) else (some (.inl (.inl (((mm_lshl v2 (1 : Int32)) ||| r1.toInt64), (v4 + (1 : Int32)))), M2)))) else (some (.inl (.inr v2), M))
noncomputable def mf_46_L5 (v1 : Int32) (s : Int64 × Int32) (M : mm_M) : mm_O (Int64) := mm_L (fun s M => mf_46_b5 v1 s.1 s.2 M) s M
set_option maxRecDepth 8000 in
set_option maxHeartbeats 4000000 in
theorem ms_46_b5 {L : Nat} {xs : Nat → Int32} {d : Nat} (hd : 8 ≤ d) {v1 : Int32} {v2 : Int64} {v4 : Int32} {M : mm_M} {q : (((Int64 × Int32) ⊕ (Int64)) ⊕ Nat) × mm_M} {o : mm_E} (h : mf_46_b5 v1 v2 v4 M = some q) (hA : mm_A (mm_K2 (fun s M o => mp_46_5 L xs (d) v1 s.1 s.2 M o) (fun r M o => mp_46_48 L xs (d) r M o)) q o) : mp_46_5 L xs d v1 v2 v4 M o := by
  unfold mf_46_b5 at h
  obtain ⟨d, rfl⟩ := mm_d1 (n := 7) hd
  intro z3 z5 z6
  show mm_Runs L xs (d + 1) 46 (5, [some (.ref 1), some (.int v1), some (.long v2), z3, some (.int v4), z5, z6], [], M) o
  refine mm_Runs.seq (l := [(5, .iload 4, 2), (7, .iload_n 1, 1)]) (S2 := (8, [some (.ref 1), some (.int v1), some (.long v2), z3, some (.int v4), z5, z6], [.int v1, .int v4], M)) (by decide +kernel) (hO := mm_own_46) rfl ?_
  refine mm_R_ige (t := 48) rfl rfl rfl (fun hc => ?_) (fun hc => ?_)
  · replace h := mm_ip hc h
    refine mm_Runs.seq (l := [(11, .aload_n 0, 1)]) (S2 := (12, [some (.ref 1), some (.int v1), some (.long v2), z3, some (.int v4), z5, z6], [.ref 1], M)) (by decide +kernel) (hO := mm_own_46) rfl ?_
    refine mm_R_call (v := mm_wi) h hA (k2 := 45) (as := [.ref 1]) (r := []) rfl (fun _ => rfl) (fun q hq o ho => ms_45 (by omega) hq ho) (fun r1 M2 h => ?_)
    show mm_Runs L xs (d + 1) 46 (15, [some (.ref 1), some (.int v1), some (.long v2), z3, some (.int v4), z5, z6], [.int r1], M2) o
    refine mm_Runs.seq (l := [(15, .i2l, 1), (16, .lstore 5, 2), (18, .aload_n 0, 1), (19, .getfield 25, 3)]) (S2 := (22, [some (.ref 1), some (.int v1), some (.long v2), z3, some (.int v4), some (.long r1.toInt64), none], [.int (M2.1 1 4)], M2)) (by decide +kernel) (hO := mm_own_46) rfl ?_
    refine mm_R_zeq (t := 34) rfl rfl rfl (fun hc => ?_) (fun hc => ?_)
    · replace h := mm_ip hc h
      refine mm_Runs.seq (l := [(34, .lload_n 2, 1), (35, .lload 5, 2), (37, .iload 4, 2), (39, .lshl, 1), (40, .lor, 1), (41, .lstore_n 2, 1), (42, .iinc 4 1, 3), (45, .goto (-40), 3)]) (S2 := (5, [some (.ref 1), some (.int v1), some (.long (v2 ||| (mm_lshl r1.toInt64 v4))), none, some (.int (v4 + (1 : Int32))), some (.long r1.toInt64), none], [], M2)) (by decide +kernel) (hO := mm_own_46) rfl ?_
      cases h
      exact (show mp_46_5 L xs (d + 1) v1 (v2 ||| (mm_lshl r1.toInt64 v4)) (v4 + (1 : Int32)) M2 o from hA) none (some (.long r1.toInt64)) none
    · replace h := mm_iq hc h
      refine mm_Runs.seq (l := [(25, .lload_n 2, 1), (26, .iconst 1, 1), (27, .lshl, 1), (28, .lload 5, 2), (30, .lor, 1), (31, .goto 10, 3), (41, .lstore_n 2, 1), (42, .iinc 4 1, 3), (45, .goto (-40), 3)]) (S2 := (5, [some (.ref 1), some (.int v1), some (.long ((mm_lshl v2 (1 : Int32)) ||| r1.toInt64)), none, some (.int (v4 + (1 : Int32))), some (.long r1.toInt64), none], [], M2)) (by decide +kernel) (hO := mm_own_46) rfl ?_
      cases h
      exact (show mp_46_5 L xs (d + 1) v1 ((mm_lshl v2 (1 : Int32)) ||| r1.toInt64) (v4 + (1 : Int32)) M2 o from hA) none (some (.long r1.toInt64)) none
  · replace h := mm_iq hc h
    cases h
    exact (show mp_46_48 L xs (d + 1) v2 M o from hA) (some (.ref 1)) (some (.int v1)) z3 (some (.int v4)) z5 z6
theorem ms_46_L5 {L : Nat} {xs : Nat → Int32} {d : Nat} (hd : 8 ≤ d) {v1 : Int32} {v2 : Int64} {v4 : Int32} {β : Type} {K : β → mm_M → mm_E → Prop} {F : (Int64) → mm_M → mm_O β} {M : mm_M} {q : (β ⊕ Nat) × mm_M} {o : mm_E} (h : mm_B (mf_46_L5 v1 (v2, v4) M) F = some q) (hA : mm_A K q o) (hx : ∀ (r : (Int64)) (M2 : mm_M), F r M2 = some q → (fun r M o => mp_46_48 L xs (d) r M o) r M2 o) : mp_46_5 L xs d v1 v2 v4 M o := mm_R_loop (s := (v2, v4)) (M := M) (P := (fun s M o => mp_46_5 L xs (d) v1 s.1 s.2 M o)) (X := (fun r M o => mp_46_48 L xs (d) r M o)) h hA (fun s M q hq hA => ms_46_b5 hd hq hA) hx
noncomputable def mf_46 (v1 : Int32) (M : mm_M) : mm_O Int64 := mm_B (mf_46_L5 v1 ((0 : Int64), (0 : Int32)) M) (fun r2 M1 => some (.inl r2, M1))
set_option maxRecDepth 8000 in
set_option maxHeartbeats 4000000 in
theorem ms_46 {L : Nat} {xs : Nat → Int32} {d : Nat} (hd : 8 ≤ d) {v1 : Int32} {M : mm_M} {q : (Int64 ⊕ Nat) × mm_M} {o : mm_E} (h : mf_46 v1 M = some q) (hA : mm_A (mm_Kr mm_wl) q o) : mm_Runs L xs d 46 (0, mm_ent (mm_ml 46) [.ref 1, .int v1], [], M) o := by
  unfold mf_46 at h
  obtain ⟨d, rfl⟩ := mm_d1 (n := 7) hd
  show mm_Runs L xs (d + 1) 46 (0, [some (.ref 1), some (.int v1), none, none, none, none, none], [], M) o
  refine mm_Runs.seq (l := [(0, .lconst 0, 1), (1, .lstore_n 2, 1), (2, .iconst 0, 1), (3, .istore 4, 2)]) (S2 := (5, [some (.ref 1), some (.int v1), some (.long (0 : Int64)), none, some (.int (0 : Int32)), none, none], [], M)) (by decide +kernel) (hO := mm_own_46) rfl ?_
  have hp : mp_46_5 L xs (d + 1) v1 (0 : Int64) (0 : Int32) M o := by
    refine ms_46_L5 hd h hA (fun r2 M1 h => ?_)
    intro y3 y4 y5 y6 y7 y8
    show mm_Runs L xs (d + 1) 46 (48, [y3, y4, some (.long r2), y5, y6, y7, y8], [], M1) o
    refine mm_Runs.seq (l := [(48, .lload_n 2, 1)]) (S2 := (49, [y3, y4, some (.long r2), y5, y6, y7, y8], [.long r2], M1)) (by decide +kernel) (hO := mm_own_46) rfl ?_
    cases h
    exact mm_R_retl rfl rfl hA
  exact hp none none none
