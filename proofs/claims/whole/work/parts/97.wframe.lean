/-! WRITING: FRAME -/
def mq_gx (h a : Int32) : Int32 := ((mm_shl (h + (a * (374761393 : Int32))) (11 : Int32)) ||| (mm_ush (h + (a * (374761393 : Int32))) ((32 : Int32) - (11 : Int32)))) * (-1640531535 : Int32)
theorem mq_gxc {p n : Nat} {v2 k h : Int32} {M : mm_M} (h1 : k < v2) (h2 : mm_in k n = true) : mf_31_L223 p n v2 (k, h) M = mf_31_L223 p n v2 (k + 1, mq_gx h (M.1 p k.toNatClampNeg)) M := by
  have e2 : mf_31_L223 p n v2 (k, h) M = mm_B (mf_31_b223 p n v2 k h M) (mm_nx (mm_L (fun s M => mf_31_b223 p n v2 s.1 s.2 M))) := mm_L_eq _ _ _
  rw [e2]
  unfold mf_31_b223
  rw [if_pos h1, if_pos h2]
  rfl
theorem mq_gxr {p n : Nat} {v2 k h : Int32} {M : mm_M} (h1 : k < v2) (h2 : mm_in k n = true) : mf_188_L181 p n v2 (k, h) M = mf_188_L181 p n v2 (k + 1, mq_gx h (M.1 p k.toNatClampNeg)) M := by
  have e2 : mf_188_L181 p n v2 (k, h) M = mm_B (mf_188_b181 p n v2 k h M) (mm_nx (mm_L (fun s M => mf_188_b181 p n v2 s.1 s.2 M))) := mm_L_eq _ _ _
  rw [e2]
  unfold mf_188_b181
  rw [if_pos h1, if_pos h2]
  rfl
theorem mq_gxe {p n : Nat} {v2 k h : Int32} {M : mm_M} (h1 : ¬ k < v2) : mf_31_L223 p n v2 (k, h) M = some (.inl h, M) ∧ mf_188_L181 p n v2 (k, h) M = some (.inl h, M) := by
  constructor
  · have e2 : mf_31_L223 p n v2 (k, h) M = mm_B (mf_31_b223 p n v2 k h M) (mm_nx (mm_L (fun s M => mf_31_b223 p n v2 s.1 s.2 M))) := mm_L_eq _ _ _
    rw [e2]
    unfold mf_31_b223
    rw [if_neg h1]
    rfl
  · have e2 : mf_188_L181 p n v2 (k, h) M = mm_B (mf_188_b181 p n v2 k h M) (mm_nx (mm_L (fun s M => mf_188_b181 p n v2 s.1 s.2 M))) := mm_L_eq _ _ _
    rw [e2]
    unfold mf_188_b181
    rw [if_neg h1]
    rfl
theorem mq_xx2 {M N : mm_M} (h0 : M.1 6 4 = N.1 101 0) (h1 : M.1 6 5 = N.1 101 1) : ∃ x, mf_31 6 16384 4 6 M = some (.inl x, M) ∧ mf_188 101 2 0 2 N = some (.inl x, N) := by
  have a1 : mf_31_L187 6 16384 6 (4, 374761393 + (6 - 4)) M = some (.inl (4, 374761393 + (6 - 4)), M) := by
    have e2 : mf_31_L187 6 16384 6 (4, 374761393 + (6 - 4)) M = mm_B (mf_31_b187 6 16384 6 4 (374761393 + (6 - 4)) M) (mm_nx (mm_L (fun s M => mf_31_b187 6 16384 6 s.1 s.2 M))) := mm_L_eq _ _ _
    rw [e2]
    unfold mf_31_b187
    rw [if_pos (by decide)]
    rfl
  have b1 : mf_188_L145 101 2 2 (0, 374761393 + (2 - 0)) N = some (.inl (0, 374761393 + (2 - 0)), N) := by
    have e2 : mf_188_L145 101 2 2 (0, 374761393 + (2 - 0)) N = mm_B (mf_188_b145 101 2 2 0 (374761393 + (2 - 0)) N) (mm_nx (mm_L (fun s M => mf_188_b145 101 2 2 s.1 s.2 M))) := mm_L_eq _ _ _
    rw [e2]
    unfold mf_188_b145
    rw [if_pos (by decide)]
    rfl
  have a2 : mf_31_L223 6 16384 6 (4, 374761393 + (6 - 4)) M = some (.inl (mq_gx (mq_gx (374761393 + (6 - 4)) (M.1 6 4)) (M.1 6 5)), M) := by
    rw [mq_gxc (by decide) (by decide), mq_gxc (by decide) (by decide), (mq_gxe (by decide)).1]
    rfl
  have b2 : mf_188_L181 101 2 2 (0, 374761393 + (2 - 0)) N = some (.inl (mq_gx (mq_gx (374761393 + (2 - 0)) (N.1 101 0)) (N.1 101 1)), N) := by
    rw [mq_gxr (by decide) (by decide), mq_gxr (by decide) (by decide), (mq_gxe (by decide)).2]
    rfl
  unfold mf_31 mf_188
  rw [if_pos (by decide), if_pos (by decide), a1, b1, mq_Bs, mq_Bs]
  dsimp only
  rw [a2, b2, mq_Bs, mq_Bs, ← h0, ← h1]
  exact ⟨_, rfl, rfl⟩
theorem mq_2_and {α β : Type} {x : mm_O α} {y : mm_O β} {Q : α → mm_M → β → mm_M → Prop} {P : α → mm_M → Prop} {R : β → mm_M → Prop} (h : mq_2 mq_F x y Q) (hp : mq_1 x P) (hr : mq_1 y R) : mq_2 mq_F x y (fun a M b N => Q a M b N ∧ P a M ∧ R b N) := by
  obtain ⟨b, N, e, q⟩ := h
  obtain ⟨a2, M2, e2, p2⟩ := hp
  obtain ⟨b3, N3, e3, r3⟩ := hr
  rcases q with ⟨a, M, e1, q⟩ | ⟨_, _, q⟩
  · rw [e] at e3
    rw [e1] at e2
    cases e3
    cases e2
    rw [e, e1]
    exact mq_2_ret ⟨q, p2, r3⟩
  · exact q.elim
theorem mq_59o {M : mm_M} {v : Int64} {s : Nat} (hs : (M.1 5 1).toInt = s) (h : s + 4 ≤ 16384) : mq_1 (mf_59 v 4 M) (fun _ M2 => ∀ j, s + 4 ≤ j → M2.1 6 j = M.1 6 j) := by
  unfold mf_59
  refine mq_1_B (P := fun _ M2 => ∀ j, s + 4 ≤ j → M2.1 6 j = M.1 6 j) ?_ (fun _ _ q => mq_1_ret q)
  unfold mf_59_L3
  refine mq_1_L (I := fun (a : Int32) M2 => ∃ k : Nat, a.toInt = k ∧ k ≤ 4 ∧ (M2.1 5 1).toInt = ((s + k : Nat) : Int) ∧ ∀ j, s + 4 ≤ j → M2.1 6 j = M.1 6 j) (m := fun a _ => (4 - a.toInt).toNat) ?_ ⟨0, rfl, by omega, by omega, fun _ _ => rfl⟩
  rintro a M2 ⟨k, ha, hk, h5, hj⟩
  unfold mf_59_b3
  by_cases c : a < 4
  · rw [if_pos c]
    rw [Int32.lt_iff_toInt_lt] at c
    simp only [Int32.reduceToInt] at c
    unfold mf_57
    rw [if_pos (by rw [Int32.lt_iff_toInt_lt]; simp only [Int32.reduceToInt]; omega), if_pos (mq_inr (by omega) (by omega)), mq_Bs]
    have e1 : (a + 1).toInt = ((k + 1 : Nat) : Int) := by rw [mi_add]; simp only [Int32.reduceToInt]; omega
    have e2 : (M2.1 5 1 + 1).toInt = ((s + (k + 1) : Nat) : Int) := by rw [mi_add]; simp only [Int32.reduceToInt]; omega
    refine mq_1_ret (.inl ⟨_, rfl, ⟨k + 1, e1, by omega, e2, fun j hj2 => ?_⟩, by omega⟩)
    show (mm_pi M2 6 (M2.1 5 1).toNatClampNeg _).1 6 j = _
    rw [mq_pj (by rw [mq_cl]; omega)]
    exact hj j hj2
  · rw [if_neg c]
    exact mq_1_ret (.inr ⟨_, rfl, hj⟩)
theorem mq_246o {M : mm_M} {v : Int64} {s : Nat} (hs : (M.1 84 41).toInt = s) (h : s + 4 ≤ 16384) : mq_1 (mf_246 v 4 M) (fun _ M2 => ∀ j, s + 4 ≤ j → M2.1 100 j = M.1 100 j) := by
  unfold mf_246
  refine mq_1_B (P := fun _ M2 => ∀ j, s + 4 ≤ j → M2.1 100 j = M.1 100 j) ?_ (fun _ _ q => mq_1_ret q)
  unfold mf_246_L3
  refine mq_1_L (I := fun (a : Int32) M2 => ∃ k : Nat, a.toInt = k ∧ k ≤ 4 ∧ (M2.1 84 41).toInt = ((s + k : Nat) : Int) ∧ ∀ j, s + 4 ≤ j → M2.1 100 j = M.1 100 j) (m := fun a _ => (4 - a.toInt).toNat) ?_ ⟨0, rfl, by omega, by omega, fun _ _ => rfl⟩
  rintro a M2 ⟨k, ha, hk, h5, hj⟩
  unfold mf_246_b3
  by_cases c : a < 4
  · rw [if_pos c]
    rw [Int32.lt_iff_toInt_lt] at c
    simp only [Int32.reduceToInt] at c
    unfold mf_245
    rw [if_pos (by rw [Int32.lt_iff_toInt_lt]; simp only [Int32.reduceToInt]; omega), if_pos (mq_inr (by omega) (by omega)), mq_Bs]
    have e1 : (a + 1).toInt = ((k + 1 : Nat) : Int) := by rw [mi_add]; simp only [Int32.reduceToInt]; omega
    have e2 : (M2.1 84 41 + 1).toInt = ((s + (k + 1) : Nat) : Int) := by rw [mi_add]; simp only [Int32.reduceToInt]; omega
    refine mq_1_ret (.inl ⟨_, rfl, ⟨k + 1, e1, by omega, e2, fun j hj2 => ?_⟩, by omega⟩)
    show (mm_pi M2 100 (M2.1 84 41).toNatClampNeg _).1 100 j = _
    rw [mq_pj (by rw [mq_cl]; omega)]
    exact hj j hj2
  · rw [if_neg c]
    exact mq_1_ret (.inr ⟨_, rfl, hj⟩)
theorem mq_fend {M N : mm_M} (h : mq_P M N) (hz : mq_z N ≤ 900000000) : mq_2 mq_F (mf_133_j90 M) (mf_266_j154 N) (fun _ M2 _ N2 => mq_P M2 N2) := by
  unfold mf_133_j90 mf_266_j154
  refine mq_2_Bf (mq_wlowb h (by decide) (by decide) (by simp only [Int32.reduceToInt]; omega)) ?_
  rintro _ M2 _ N2 ⟨⟨p2, z2, k1, k2⟩, _⟩
  simp only [Int32.reduceToInt] at z2
  rw [← p2.1.1.1]
  have s0 := p2.1.1.2.1
  have s1 := p2.1.1.2.2.1
  obtain ⟨x, e3⟩ := mq_xx_r (q := 85) (m := 10000) (v1 := 0) (v2 := M2.1 1 1) (N := N2) (by decide) (by exact s0) (by omega) (by omega)
  have e2 := mq_xx_is (p := 2) (n := 10000) (M := M2) (by decide) (by exact s0) (by omega) (by omega) (by omega) (mq_T_eq p2.1.1) e3
  rw [e2, e3, mq_Bs, mq_Bs]
  refine mq_2_Bf (mq_wlowb p2 (by decide) (by decide) (by simp only [Int32.reduceToInt]; omega)) ?_
  rintro _ M3 _ N3 ⟨⟨p3, _⟩, _⟩
  exact mq_2_ret p3
theorem mi_top31 {x : Int32} (h0 : 0 ≤ x.toInt) (h1 : x.toInt ≤ 100000) : (2147483648 : Int64) + x.toInt64 = x.toInt64 ||| 2147483648 := by
  have n1 : mq_n x.toInt64 = x.toInt.toNat := mq_n_i32 h0
  have n2 : mq_n (x.toInt64 ||| 2147483648) = 2 ^ 31 * 1 + mq_n x.toInt64 := mq_n_or (i := 31) (b := 1) (by omega) (by decide)
  have e1 : x.toInt64.toInt = x.toInt := Int32.toInt_toInt64 x
  have e2 : ((2147483648 : Int64) + x.toInt64).toInt = 2147483648 + x.toInt := by rw [mj_add, e1]; simp only [Int64.reduceToInt]; omega
  have e3 : (x.toInt64 ||| 2147483648).toInt = ((2147483648 + x.toInt.toNat : Nat) : Int) := by rw [mq_n_int (by omega), n2, n1]
  exact Int64.toInt_inj.mp (by rw [e2, e3]; omega)
/-- the FRAME's one block -/
theorem mq_fblock {M N : mm_M} (h : mq_P M N) (hm : (N.1 84 41).toInt = 7) (g1 : N.1 84 42 = 0) (g2 : N.1 84 43 = 0) : mq_2 mq_F (mm_B (mf_134 M) (fun _ M10 => mf_133_j90 M10)) (mm_B (mf_246 (0 : Int64) (4 : Int32) N) (fun _ M10 => mm_B (mf_265 M10) (fun _ M11 => if (((M11.1 84 41) - (N.1 84 41)) - (4 : Int32)) < (M11.1 84 2) then (mf_266_j99 (N.1 84 41) (((M11.1 84 41) - (N.1 84 41)) - (4 : Int32)) (0 : Int32) M11) else (mf_266_j99 (N.1 84 41) (((M11.1 84 41) - (N.1 84 41)) - (4 : Int32)) (1 : Int32) M11)))) (fun _ M2 _ N2 => mq_P M2 N2) := by
  have s10 := h.1.1.2.2.1
  have s00 := h.1.1.2.1
  have z0 : mq_z N = 56 := by unfold mq_z; rw [hm, g2]; rfl
  have e51 : M.1 5 1 = N.1 84 41 := by
    rcases h.1.2.2.1 with ⟨_, q, _⟩ | ⟨q, _⟩
    · exact q
    · omega
  unfold mf_134
  rw [mq_Ba]
  refine mq_2_Bf (mq_2_Kf (mq_wlowb h (by decide) (by decide) (by simp only [Int32.reduceToInt]; omega)) mk_59 mk_246) ?_
  rintro _ M2 _ N2 ⟨⟨⟨p2, z2, _, _⟩, m2⟩, k1, k2⟩
  simp only [Int32.reduceToInt] at z2 m2
  rw [mq_Ba]
  refine mq_2_Bf (mq_2_Kf (mq_ppieces p2 (by omega)) mk_129 mk_265) ?_
  rintro _ M3 _ N3 ⟨⟨p3, m3, z3, ml⟩, k3, k4⟩
  have es2 : M2.1 1 1 = M.1 1 1 := (k1 1 1 rfl).1
  have es3 : M3.1 1 1 = M.1 1 1 := by rw [(k3 1 1 rfl).1]; exact es2
  rw [es2] at m3 z3
  have g3 : N3.1 84 42 = 0 := by rw [(k4 84 42 rfl).1, (k2 84 42 rfl).1]; exact g1
  have g4 : N3.1 84 43 = 0 := by rw [(k4 84 43 rfl).1, (k2 84 43 rfl).1]; exact g2
  have m30 := p3.1.2.1
  have q3 : M3.1 5 1 = N3.1 84 41 ∧ M3.1 5 2 = 0 := by
    rcases p3.1.2.2.1 with ⟨_, q, q2⟩ | ⟨q, _⟩
    · exact ⟨q, q2⟩
    · omega
  have eN3 : N3.1 84 2 = M.1 1 1 := by rw [← p3.1.1.1]; exact es3
  rw [q3.1, e51, es3, eN3]
  have e1 : (N3.1 84 41 - N.1 84 41).toInt = (N3.1 84 41).toInt - 7 := by rw [mi_sub, hm]; omega
  have e2 : (N3.1 84 41 - N.1 84 41 - 4).toInt = (N3.1 84 41).toInt - 11 := by rw [mi_sub, e1]; simp only [Int32.reduceToInt]; omega
  -- back to the number's room
  have pb : mq_P (mm_pi (mm_pi (mm_pi M3 5 1 (N.1 84 41)) 5 4 0) 5 5 0) (mm_pi N3 84 41 (N.1 84 41)) := by
    refine ⟨⟨p3.1.1, ?_, .inl ⟨?_, rfl, q3.2⟩, fun j hj => ?_⟩, g3.symm, (by show 0 ≤ (0 : Int32).toInt; decide), (by show (0 : Int32).toInt < 256; decide), g4.symm, (by show 0 ≤ (0 : Int32).toInt; decide), (by show (0 : Int32).toInt < 8; decide)⟩
    · show 0 ≤ (N.1 84 41).toInt
      omega
    · show (N.1 84 41).toInt ≤ 16384
      omega
    · have hj : (j : Int) < (N.1 84 41).toInt := hj
      exact p3.1.2.2.2 j (by rw [q3.1]; omega)
  have zb : mq_z (mm_pi N3 84 41 (N.1 84 41)) = 56 := by
    show 8 * (N.1 84 41).toInt + (N3.1 84 43).toInt = 56
    rw [hm, g4]; rfl
  by_cases c : N3.1 84 41 - N.1 84 41 - 4 < M.1 1 1
  · rw [if_pos c, if_pos c]
    rw [Int32.lt_iff_toInt_lt, e2] at c
    unfold mf_134_j51 mf_266_j99 mf_266_j124 mf_56
    rw [mq_Ba, mq_Bs, if_neg (by decide), if_pos rfl, mq_Ba]
    have hh : (((mm_pi (mm_pi (mm_pi M3 5 1 (N.1 84 41)) 5 4 0) 5 5 0).1 5 1)).toInt = ((7 : Nat) : Int) := hm
    have hh2 : ((mm_pi N3 84 41 (N.1 84 41)).1 84 41).toInt = ((7 : Nat) : Int) := hm
    refine mq_2_Bf (mq_2_Kf (mq_2_and (mq_wlowb pb (by decide) (by decide) (by simp only [Int32.reduceToInt]; omega)) (mq_59o hh (by decide)) (mq_246o hh2 (by decide))) mk_59 mk_246) ?_
    rintro _ M4 _ N4 ⟨⟨⟨⟨p4, z4, _, _⟩, m4⟩, o1, o2⟩, k5, k6⟩
    simp only [Int32.reduceToInt] at z4 m4
    have hm4 : (N4.1 84 41).toInt = 11 := by
      have : (N4.1 84 41).toInt = (N.1 84 41).toInt + 4 := m4
      omega
    rw [mq_Ba, mq_Bs, mq_Bs]
    have e3 : N4.1 84 41 + (N3.1 84 41 - N.1 84 41 - 4) = N3.1 84 41 := Int32.toInt_inj.mp (by rw [mi_add, hm4, e2]; omega)
    rw [e3]
    have h43 : N4.1 84 43 = 0 := by rw [(k6 84 43 rfl).1]; exact g4
    have h42 : N4.1 84 42 = 0 := by rw [(k6 84 42 rfl).1]; exact g3
    have pe : mq_P (mm_pi (mm_pi (mm_pi M4 5 1 (N3.1 84 41)) 5 4 0) 5 5 0) (mm_pi N4 84 41 (N3.1 84 41)) := by
      refine ⟨⟨p4.1.1, m30, .inl ⟨?_, rfl, ?_⟩, fun j hj => ?_⟩, h42.symm, (by show 0 ≤ (0 : Int32).toInt; decide), (by show (0 : Int32).toInt < 256; decide), h43.symm, (by show 0 ≤ (0 : Int32).toInt; decide), (by show (0 : Int32).toInt < 8; decide)⟩
      · show (N3.1 84 41).toInt ≤ 16384
        omega
      · show M4.1 5 2 = 0
        rcases p4.1.2.2.1 with ⟨_, _, q⟩ | ⟨q, _⟩
        · exact q
        · omega
      · have hj : (j : Int) < (N3.1 84 41).toInt := hj
        show M4.1 6 j = N4.1 100 j ∧ 0 ≤ (M4.1 6 j).toInt ∧ (M4.1 6 j).toInt < 256
        by_cases d : j < 11
        · refine p4.1.2.2.2 j ?_
          rcases p4.1.2.2.1 with ⟨_, q, _⟩ | ⟨q, _⟩
          · rw [q, hm4]; omega
          · omega
        · have x1 : M4.1 6 j = M3.1 6 j := o1 j (by omega)
          have x2 : N4.1 100 j = N3.1 100 j := o2 j (by omega)
          rw [x1, x2]
          exact p3.1.2.2.2 j (by rw [q3.1]; exact hj)
    refine mq_fend pe ?_
    show 8 * (N3.1 84 41).toInt + (N4.1 84 43).toInt ≤ _
    rw [h43]
    simp only [Int32.reduceToInt]
    omega
  · rw [if_neg c, if_neg c]
    unfold mf_134_j51 mf_266_j99 mf_266_j124 mf_56
    rw [mq_Ba, mq_Bs, if_pos rfl, if_neg (by decide), mq_Ba]
    have e3 : (mm_pi (mm_pi (mm_pi M3 5 1 (N.1 84 41)) 5 4 0) 5 5 0).1 1 1 = M.1 1 1 := es3
    rw [e3, eN3, mi_top31 s00 (by omega)]
    refine mq_2_Bf (mq_wlowb pb (by decide) (by decide) (by simp only [Int32.reduceToInt]; omega)) ?_
    rintro _ M4 _ N4 ⟨⟨p4, z4, k5, k6⟩, m4⟩
    simp only [Int32.reduceToInt] at z4
    have e14 : M4.1 1 1 = M.1 1 1 := by rw [(k5 1 1 rfl).1]; exact es3
    rw [if_neg (by decide), mq_Ba, ← p4.1.1.1, e14]
    refine mq_2_Bf (mq_wtape p4 (by decide) (by simp only [Int32.reduceToInt]; omega) (by rw [e14]; omega) (by simp only [Int32.reduceToInt]; omega)) ?_
    rintro _ M5 _ N5 ⟨⟨p5, z5, _, _⟩, _⟩
    simp only [Int32.reduceToInt] at z5
    rw [mq_Bs]
    exact mq_fend p5 (by omega)
/-- a FRAME is written -/
theorem mq_pframe {M N : mm_M} (h : mq_P M N) (hm : N.1 84 41 = 0) (g1 : N.1 84 42 = 0) (g2 : N.1 84 43 = 0) (c0 : N.1 101 0 = 100) (c1 : N.1 101 1 = 64) : mq_2 mq_F (mf_133 M) (mf_266 N) (fun _ M2 _ N2 => mq_P M2 N2) := by
  have z0 : mq_z N = 0 := by unfold mq_z; rw [hm, g2]; rfl
  have hm0 : (N.1 84 41).toInt = 0 := by rw [hm]; rfl
  unfold mf_133 mf_266
  refine mq_2_Bf (mq_2_Kf (mq_pb h (by omega) (by decide)) mk_57 mk_245) ?_
  rintro _ M1 _ N1 ⟨⟨⟨p1, z1, _, _⟩, m1⟩, a1, b1⟩
  refine mq_2_Bf (mq_2_Kf (mq_pb p1 (by omega) (by decide)) mk_57 mk_245) ?_
  rintro _ M2 _ N2 ⟨⟨⟨p2, z2, _, _⟩, m2⟩, a2, b2⟩
  refine mq_2_Bf (mq_2_Kf (mq_pb p2 (by omega) (by decide)) mk_57 mk_245) ?_
  rintro _ M3 _ N3 ⟨⟨⟨p3, z3, _, _⟩, m3⟩, a3, b3⟩
  refine mq_2_Bf (mq_2_Kf (mq_pb p3 (by omega) (by decide)) mk_57 mk_245) ?_
  rintro _ M4 _ N4 ⟨⟨⟨p4, z4, _, _⟩, m4⟩, a4, b4⟩
  obtain ⟨M5, N5, x5, y5, q5, m5, a5, b5⟩ := mq_put_w (w := 100) (v := 100) p4.1 (by omega) (by decide)
  obtain ⟨M6, N6, x6, y6, q6, m6, a6, b6⟩ := mq_put_w (w := 64) (v := 64) q5 (by omega) (by decide)
  rw [x5, y5, mq_Bs, mq_Bs, x6, y6, mq_Bs, mq_Bs]
  have kM := mq_kp_trans a5 a6
  have kN := mq_kp_trans b5 b6
  have p6 : mq_P M6 N6 := by
    refine ⟨q6, ?_⟩
    unfold mq_PH
    rw [(kM 5 4 rfl).1, (kM 5 5 rfl).1, (kN 84 42 rfl).1, (kN 84 43 rfl).1]
    exact p4.2
  have z6 : mq_z N6 ≤ mq_z N4 + 16 := by
    unfold mq_z
    rw [(kN 84 43 rfl).1]
    omega
  -- the two bytes
  have e4 : (M4.1 5 1).toInt = 4 := by
    rcases p4.1.2.2.1 with ⟨_, q, _⟩ | ⟨q, _⟩
    · rw [q]; omega
    · omega
  have e5 : (M5.1 5 1).toInt = 5 := by
    rcases q5.2.2.1 with ⟨_, q, _⟩ | ⟨q, _⟩
    · rw [q]; omega
    · omega
  have i4 : M4.1 5 1 = 4 := Int32.toInt_inj.mp e4
  have i5 : M5.1 5 1 = 5 := Int32.toInt_inj.mp e5
  have v4 : M5.1 6 4 = 100 := by
    unfold mf_57 at x5
    rw [i4, if_pos (by decide), if_pos (by decide)] at x5
    cases x5
    rfl
  have v6 : M6.1 6 4 = 100 ∧ M6.1 6 5 = 64 := by
    unfold mf_57 at x6
    rw [i5, if_pos (by decide), if_pos (by decide)] at x6
    cases x6
    exact ⟨v4, rfl⟩
  have bb := mq_kp_trans b1 (mq_kp_trans b2 (mq_kp_trans b3 (mq_kp_trans b4 kN)))
  obtain ⟨x, xx, yy⟩ := mq_xx2 (M := M6) (N := N6) (by rw [v6.1, (bb 101 0 rfl).1, c0]) (by rw [v6.2, (bb 101 1 rfl).1, c1])
  rw [xx, yy, mq_Bs, mq_Bs]
  refine mq_2_Bf (mq_2_Kf (mq_pb p6 (by omega) rfl) mk_57 mk_245) ?_
  rintro _ M7 _ N7 ⟨⟨⟨p7, z7, _, _⟩, m7⟩, a7, b7⟩
  rw [← p7.1.1.1]
  have bb7 := mq_kp_trans bb b7
  by_cases c : 0 < M7.1 1 1
  · rw [if_pos c, if_pos c]
    exact mq_fblock p7 (by omega) (by rw [(bb7 84 42 rfl).1]; exact g1) (by rw [(bb7 84 43 rfl).1]; exact g2)
  · rw [if_neg c, if_neg c]
    exact mq_fend p7 (by omega)
