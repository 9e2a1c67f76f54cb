/-! WRITING: SORTED, the whole in step -/
theorem mq_Bc {α β : Type} {x : mm_O α} {f g : α → mm_M → mm_O β} (h : ∀ a M, x = some (.inl a, M) → f a M = g a M) : mm_B x f = mm_B x g := by
  match x, h with
  | none, _ => rfl
  | some (.inl a, M), h => exact h a M rfl
  | some (.inr z, M), _ => rfl
theorem mq_132 {N : mm_M} {x : Int32} {y : Int64} (hy : y = if 0 < N.1 84 2 then x.toInt64 else 0) : mf_276_j132 x N = mm_B (mf_249 (25779555029136 : Int64) (48 : Int32) (1 : Int32) N) (fun _ M1 => mf_276_j156 y M1) := by
  unfold mf_276_j132
  refine mq_Bc (fun a M e => ?_)
  have k : mq_kp mw_249 N M := mk_249 _ e
  try dsimp only
  rw [(k 84 2 rfl).1, hy]
  by_cases c : 0 < N.1 84 2
  · rw [if_pos c, if_pos c]
  · rw [if_neg c, if_neg c]
/-- the letters' part, and the end -/
theorem mq_wsblk {M N : mm_M} {x v2 : Int32} {q c : Nat} (h : mq_P M N) (f1 : M.1 5 3 = 1) (g1 : N.1 84 13 = 1) (hq : (M.1 42 9).toInt = q) (hq1 : q ≤ 256) (hv : v2 = M.1 42 9 + 2) (hl : mq_l9 M N c) (hc : c ≤ 12600) (s0 : 0 < M.1 1 1) (hz : mq_z N ≤ 10000000) :
    mq_2 mq_F (mm_B (mf_62 (2 : Int64) (3 : Int32) M) (fun _ M6 => mm_B (mf_62 ((((M6.1 42 15) + (50 : Int32)) - (1 : Int32)) / (50 : Int32)).toInt64 (15 : Int32) M6) (fun _ M7 => mm_B (mf_155_L86 ((((M6.1 42 15) + (50 : Int32)) - (1 : Int32)) / (50 : Int32)) (0 : Int32) M7) (fun r9 M8 => mm_B (mf_155_L107 (1 : Int32) M8) (fun r16 M15 => mm_B (mf_155_L134 r16 (0 : Int32) M15) (fun r22 M21 => mm_B (mf_155_L187 r16 (0 : Int32) M21) (fun r28 M27 => mf_147_j88 x M27)))))))
      (mm_B (mf_280_L150 v2 (1 : Int32) N) (fun r4 M3 => mm_B (mf_280_j164 v2 r4 M3) (fun _ M4 => mf_276_j132 x M4))) (fun _ M2 _ N2 => mq_P M2 N2) := by
  obtain ⟨l, _, y0, l0, l1⟩ := mq_llen (M := M) (N := N) hq hq1 hv
  rw [y0, mq_Bs]
  unfold mf_280_j164
  rw [mq_Ba]
  refine mq_2_Bf (mq_wbits h (by rw [f1, g1]) g1.symm (by decide) (by simp only [Int32.reduceToInt]; omega)) ?_
  rintro _ M2 _ N2 ⟨p2, z2, k1, k2⟩
  simp only [Int32.reduceToInt] at z2
  have f2 : M2.1 5 3 = 1 := by rw [(k1 5 3 rfl).1]; exact f1
  have g2 : N2.1 84 13 = 1 := by rw [(k2 84 13 rfl).1]; exact g1
  have hc2 := hl.2.1
  have e1 : (M.1 42 15 + 50).toInt = c + 50 := by rw [mi_add, hc2]; simp only [Int32.reduceToInt]; omega
  have e2 : (M.1 42 15 + 50 - 1).toInt = c + 49 := by rw [mi_sub, e1]; simp only [Int32.reduceToInt]; omega
  have e3 : (M.1 42 15 + 49).toInt = c + 49 := by rw [mi_add, hc2]; simp only [Int32.reduceToInt]; omega
  have e4 : M2.1 42 15 + 50 - 1 = N.1 84 52 + 49 := by rw [(k1 42 15 rfl).1, ← hl.1]; exact Int32.toInt_inj.mp (by rw [e2, e3])
  have e5 : ((N.1 84 52 + 49) / 50).toInt = ((c : Int) + 49) / 50 := by rw [← hl.1, mi_div (by omega) (by decide), e3]; rfl
  rw [e4, mq_Ba]
  refine mq_2_Bf (mq_wbits p2 (by rw [f2, g2]) g2.symm (by decide) (by simp only [Int32.reduceToInt]; omega)) ?_
  rintro _ M3 _ N3 ⟨p3, z3, k3, k4⟩
  simp only [Int32.reduceToInt] at z3
  have f3 : M3.1 5 3 = 1 := by rw [(k3 5 3 rfl).1]; exact f2
  have g3 : N3.1 84 13 = 1 := by rw [(k4 84 13 rfl).1]; exact g2
  rw [mq_Ba]
  unfold mf_155_L86
  refine mq_2_Bf (mq_zeros (M := M3) (N := N3) (fun _ _ _ => rfl) p3 (by rw [f3, g3]) (by rw [e5]; omega) (by rw [e5]; omega)) ?_
  rintro _ M4 _ N4 ⟨p4, z4, k5, k6⟩
  rw [e5] at z4
  have kM := mq_kp_trans k1 (mq_kp_trans k3 k5)
  have kN := mq_kp_trans k2 (mq_kp_trans k4 k6)
  have q4 : (M4.1 42 9).toInt = q := by rw [(kM 42 9 rfl).1]; exact hq
  have v4 : v2 = M4.1 42 9 + 2 := by rw [(kM 42 9 rfl).1]; exact hv
  obtain ⟨l', x1, y1, _, _⟩ := mq_llen (M := M4) (N := N) q4 hq1 v4
  have el : l' = l := by rw [y0] at y1; cases y1; rfl
  subst el
  rw [x1, mq_Bs]
  have l4 : mq_l9 M4 N4 c := ⟨by rw [(kM 42 15 rfl).1, (kN 84 52 rfl).1]; exact hl.1, by rw [(kM 42 15 rfl).1]; exact hl.2.1, fun j hj => by rw [(kM 48 j rfl).1, (kN 104 j rfl).1]; exact hl.2.2 j hj⟩
  have T := mq_wtabs (M := M4) (N := N4) (v2 := v2) (l := l') p4 (by rw [(kM 5 3 rfl).1]; exact f1) (by rw [(kN 84 13 rfl).1]; exact g1) q4 hq1 v4 l4 hc l0 l1 (by omega)
  -- both go on with the end
  have go : mq_2 mq_F (mm_B (mm_B (mf_155_L134 l' (0 : Int32) M4) (fun r22 M21 => mm_B (mf_155_L187 l' (0 : Int32) M21) (fun r28 M27 => (some (.inl (), M27) : mm_O Unit)))) (fun _ M27 => mf_147_j88 x M27)) (mm_B (mm_B (mf_280_L206 v2 l' (0 : Int32) N4) (fun r5 M4 => mm_B (mf_280_L237 l' (0 : Int32) M4) (fun r13 M12 => (some (.inl (), M12) : mm_O Unit)))) (fun _ M4 => mf_276_j132 x M4)) (fun _ M2 _ N2 => mq_P M2 N2) := by
    refine mq_2_Bf T ?_
    rintro _ M5 _ N5 ⟨p5, z5, k7, k8⟩
    have e11 : N5.1 84 2 = M.1 1 1 := by rw [← p5.1.1.1, (k7 1 1 rfl).1, (kM 1 1 rfl).1]
    rw [mq_132 (y := x.toInt64) (by rw [e11, if_pos s0])]
    exact mq_send p5 (by rw [(k7 5 3 rfl).1, (kM 5 3 rfl).1]; exact f1) (by rw [(k8 84 13 rfl).1, (kN 84 13 rfl).1]; exact g1) rfl (by omega)
  simp only [mq_Ba, mq_Bs] at go ⊢
  exact go
theorem mq_psorted {M N : mm_M} (h : mq_P M N) (hz : mq_z N ≤ 1000) : mq_2 mq_F (mf_147 M) (mf_276 N) (fun _ M2 _ N2 => mq_P M2 N2) := by
  unfold mf_147 mf_276
  refine mq_2_Bf (mq_pb (M := mm_pi M 5 3 1) (N := mm_pi N 84 13 1) h (by show mq_z N ≤ _; omega) (by decide)) ?_
  rintro _ M1 _ N1 ⟨⟨p1, z1, a1, b1⟩, _⟩
  have z1 : mq_z N1 ≤ mq_z N + 8 := z1
  refine mq_2_Bf (mq_pb p1 (by omega) (by decide)) ?_
  rintro _ M2 _ N2 ⟨⟨p2, z2, a2, b2⟩, _⟩
  refine mq_2_Bf (mq_pb p2 (by omega) (by decide)) ?_
  rintro _ M3 _ N3 ⟨⟨p3, z3, a3, b3⟩, _⟩
  refine mq_2_Bf (mq_pb p3 (by omega) (by decide)) ?_
  rintro _ M4 _ N4 ⟨⟨p4, z4, a4, b4⟩, _⟩
  have f4 : M4.1 5 3 = 1 := by rw [(a4 5 3 rfl).1, (a3 5 3 rfl).1, (a2 5 3 rfl).1, (a1 5 3 rfl).1]; rfl
  have g4 : N4.1 84 13 = 1 := by rw [(b4 84 13 rfl).1, (b3 84 13 rfl).1, (b2 84 13 rfl).1, (b1 84 13 rfl).1]; rfl
  have s0 := p4.1.1.2.1
  have s1 := p4.1.1.2.2.1
  rw [← p4.1.1.1]
  obtain ⟨x, x29, y29⟩ := mq_crh_is (p := 2) (n := 10000) (q := 85) (m := 10000) (v1 := 0) (v2 := M4.1 1 1) (M := M4) (N := N4) (by decide) (by omega) (by omega) (mq_T_eq p4.1.1)
  rw [y29, mq_Bs, ← p4.1.1.1]
  by_cases c : 0 < M4.1 1 1
  · rw [if_pos c, if_pos c, x29, mq_Bs]
    refine mq_2_Bf (mq_text9 p4.1.1) ?_
    rintro _ M7 vn N7 ⟨n, hv, n5, n0, tx, k7, l7⟩
    have c' := c
    rw [Int32.lt_iff_toInt_lt] at c'
    simp only [Int32.reduceToInt] at c'
    have n0 := n0 c'
    have n1 : n ≤ 12500 := by omega
    obtain ⟨f, hf⟩ : ∃ f : Nat → Nat, ∀ i, i < n → (M7.1 47 i).toInt = f i ∧ f i < 256 := ⟨fun i => (M7.1 47 i).toInt.toNat, fun i hi => by have := tx.2 i hi; dsimp only; omega⟩
    obtain ⟨M8, q, a46, x8, q8, row8, cnt8, k8, rest⟩ := mq_150 (M := M7) (n := n) (f := f) tx.1 n0 n1 hf
    obtain ⟨_, N8, y8, ⟨o, r, o1, o2, o3, L, L1, L2⟩, l8⟩ := mq_1_K (mt_273 (N := N7) (vn := vn) (n := n) (f := f) hv n0 (by omega) (fun i hi => by rw [← (tx.2 i hi).1]; exact hf i hi)) mk_273
    obtain ⟨org, lets⟩ := rest o o2
    rw [x8, y8, mq_Bs, mq_Bs]
    have P8 : mq_P M8 N8 := mq_P_kp (mq_P_kp p4 k7 l7 rfl rfl) k8 l8 rfl rfl
    have z8 : mq_z N8 = mq_z N4 := by rw [mq_z_kp l8 rfl rfl, mq_z_kp l7 rfl rfl]
    have f8 : M8.1 5 3 = 1 := by rw [(k8 5 3 rfl).1, (k7 5 3 rfl).1]; exact f4
    have g8 : N8.1 84 13 = 1 := by rw [(l8 84 13 rfl).1, (l7 84 13 rfl).1]; exact g4
    have e8 : M8.1 1 1 = M4.1 1 1 := by rw [(k8 1 1 rfl).1, (k7 1 1 rfl).1]
    have q1 := mt_row_b row8
    unfold mf_155
    rw [mq_Ba]
    refine mq_2_Bf (mq_wbits P8 (by rw [f8, g8]) g8.symm (by decide) (by simp only [Int32.reduceToInt]; omega)) ?_
    rintro _ M9 _ N9 ⟨p9, z9, k9, l9⟩
    simp only [Int32.reduceToInt] at z9
    rw [mq_Ba]
    have g9 : N9.1 84 13 = 1 := by rw [(l9 84 13 rfl).1]; exact g8
    refine mq_2_Bf (mq_wbits p9 (by rw [(k9 5 3 rfl).1, f8, g9]) g9.symm (by decide) (by simp only [Int32.reduceToInt]; omega)) ?_
    rintro _ M10 _ N10 ⟨p10, z10, k10, l10⟩
    simp only [Int32.reduceToInt] at z10
    rw [mq_Ba]
    have kA := mq_kp_trans k9 k10
    have lA := mq_kp_trans l9 l10
    refine mq_2_Bf (mq_bit0 p10 (by rw [(kA 5 3 rfl).1, (lA 84 13 rfl).1, f8, g8]) (by omega)) ?_
    rintro _ M11 _ N11 ⟨p11, z11, k11, l11⟩
    have kB := mq_kp_trans kA k11
    have lB := mq_kp_trans lA l11
    -- the origin
    obtain ⟨i0, i1, i2⟩ := o2.1.2.2 0 n0
    obtain ⟨w, y11, w1⟩ := mt_origin (N := N11) (v1 := x) (v2 := vn) (n := n) (L := L) (i0 := i0) (o := o) (r := r) n1 (fun i hi => by rw [(lB 105 i rfl).1]; exact o1 i hi) o2 (fun i hi => by rw [(lB 103 i rfl).1]; exact o3 i hi) L1 L2 i1 i2
    rw [y11, mq_Bs, mq_Ba]
    unfold mf_276_j113
    have ew : M11.1 42 10 = w := Int32.toInt_inj.mp (by rw [(kB 42 10 rfl).1, w1]; exact org i0 i1 i2)
    rw [ew]
    have f11 : M11.1 5 3 = 1 := by rw [(kB 5 3 rfl).1]; exact f8
    have g11 : N11.1 84 13 = 1 := by rw [(lB 84 13 rfl).1]; exact g8
    refine mq_2_Bf (mq_wbits p11 (by rw [f11, g11]) g11.symm (by decide) (by simp only [Int32.reduceToInt]; omega)) ?_
    rintro _ M12 _ N12 ⟨p12, z12, k12, l12⟩
    simp only [Int32.reduceToInt] at z12
    have kC := mq_kp_trans kB k12
    have lC := mq_kp_trans lB l12
    have f12 : M12.1 5 3 = 1 := by rw [(k12 5 3 rfl).1]; exact f11
    have g12 : N12.1 84 13 = 1 := by rw [(l12 84 13 rfl).1]; exact g11
    -- which bytes occur
    have t7 : ∀ i, i < n → M7.1 47 i = N7.1 102 i := fun i hi => (tx.2 i hi).1
    obtain ⟨_, N13, y13, fl13, ⟨q', q13, row13⟩, l13⟩ := mt_277a (N := N12) (v := vn) (n := n) (f := f) hv n1 (fun i hi => by rw [(lC 102 i rfl).1, (l8 102 i rfl).1, ← t7 i hi]; exact hf i hi)
    obtain ⟨eq, er⟩ := mt_row_u row8 row13
    subst eq
    have e277 : mf_277 vn N12 = mm_B (mf_277_L99 (0 : Int32) N13) (fun r19 M18 => mm_B (mf_277_L158 (0 : Int32) M18) (fun r25 M24 => some (.inl (), M24))) := by
      have e := mq_Ba (x := mm_B (mf_277_L2 vn (0 : Int32) N12) (fun r2 M1 => mm_B (mf_277_L24 vn (0 : Int32) M1) (fun r7 M6 => (mf_277_L54 (0 : Int32) (mm_pi M6 84 20 (0 : Int32)))))) (f := fun _ M12 => mm_B (mf_277_L99 (0 : Int32) M12) (fun r19 M18 => mm_B (mf_277_L158 (0 : Int32) M18) (fun r25 M24 => (some (.inl (), M24) : mm_O Unit)))) (g := fun a M => some (.inl a, M))
      have e2 : mf_277 vn N12 = mm_B (mm_B (mf_277_L2 vn (0 : Int32) N12) (fun r2 M1 => mm_B (mf_277_L24 vn (0 : Int32) M1) (fun r7 M6 => (mf_277_L54 (0 : Int32) (mm_pi M6 84 20 (0 : Int32)))))) (fun _ M12 => mm_B (mf_277_L99 (0 : Int32) M12) (fun r19 M18 => mm_B (mf_277_L158 (0 : Int32) M18) (fun r25 M24 => (some (.inl (), M24) : mm_O Unit)))) := by
        unfold mf_277
        simp only [mq_Ba]
      rw [e2, y13, mq_Bs]
    have p13 : mq_P M12 N13 := mq_P_kp p12 (mq_kp_refl (l := [])) l13 rfl rfl
    have z13 : mq_z N13 = mq_z N12 := mq_z_kp l13 rfl rfl
    have oi : mq_oi f n M12 N13 := ⟨p13, f12, by rw [(l13 84 13 rfl).1]; exact g12, fun b hb => by rw [(kC 49 b rfl).1]; exact cnt8 b hb, fl13⟩
    rw [e277, mq_Ba]
    unfold mf_156
    rw [mq_Ba, mq_Ba]
    refine mq_2_Bf (mq_o16 oi (by omega)) ?_
    rintro _ M14 _ N14 ⟨oi14, z14, h106, k14, l14⟩
    obtain ⟨M15, N15, x15, y15, oi15, z15, k15, l15⟩ := mq_o256 (f := f) (n := n) 16 0 0 0 M14 N14 rfl rfl rfl oi14 h106 (by omega)
    rw [mq_Ba, mq_Ba, x15, y15, mq_Bs, mq_Bs, mq_Bs, mq_Bs]
    -- the letters
    have e20 : N15.1 84 20 = M8.1 42 9 := Int32.toInt_inj.mp (by rw [(l15 84 20 rfl).1, (l14 84 20 rfl).1, q13, q8])
    unfold mf_280 mf_280_j135
    rw [e20]
    have kD : mq_kp mq_wM M8 M15 := mq_kp_trans kC (mq_kp_trans k14 k15)
    obtain ⟨N16, y16, ⟨cc, c16, l16⟩, n16⟩ := lets (mm_pi N15 84 52 0) vn (M8.1 42 9 + 2) hv rfl (fun i hi => by show (N15.1 105 i).toInt = _; rw [(l15 105 i rfl).1, (l14 105 i rfl).1, (l13 105 i rfl).1, (lC 105 i rfl).1]; exact o1 i hi) (fun i hi => by show _ = N15.1 102 i; rw [(l15 102 i rfl).1, (l14 102 i rfl).1, (l13 102 i rfl).1, (lC 102 i rfl).1, (l8 102 i rfl).1]; exact t7 i hi) (fun j hj => by show _ = N15.1 94 j; rw [(l15 94 j rfl).1, (l14 94 j rfl).1]; exact er j hj) rfl
    have Y := y16 Unit (fun M2 => mm_B (mf_280_L150 (M8.1 42 9 + 2) (1 : Int32) M2) (fun r4 M3 => mm_B (mf_280_j164 (M8.1 42 9 + 2) r4 M3) (fun _ M4 => mf_276_j132 x M4)))
    have p16 : mq_P M15 N16 := mq_P_kp (N := mm_pi N15 84 52 0) oi15.1 (mq_kp_refl (l := [])) n16 rfl rfl
    have z16 : mq_z N16 = mq_z N15 := mq_z_kp (N := mm_pi N15 84 52 0) n16 rfl rfl
    have l16' : mq_l9 M15 N16 cc := ⟨by rw [(kD 42 15 rfl).1]; exact l16.1, by rw [(kD 42 15 rfl).1]; exact l16.2.1, fun j hj => by rw [(kD 48 j rfl).1]; exact l16.2.2 j hj⟩
    have S := mq_wsblk (M := M15) (N := N16) (x := x) (v2 := M8.1 42 9 + 2) (q := q) (c := cc) p16 oi15.2.1 (by rw [(n16 84 13 rfl).1]; exact oi15.2.2.1) (by rw [(kD 42 9 rfl).1]; exact q8) q1 (by rw [(kD 42 9 rfl).1]) l16' c16 (by rw [(kD 1 1 rfl).1, e8]; exact c) (by omega)
    simp only [mq_Ba, mq_Bs] at Y S ⊢
    rw [Y]
    exact S
  · rw [if_neg c, if_neg c]
    rw [mq_132 (y := 0) (by rw [← p4.1.1.1, if_neg c])]
    exact mq_send p4 f4 g4 rfl (by omega)
