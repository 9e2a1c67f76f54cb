/-! WRITING: CHANCES, in step -/
theorem mj_div {x k : Int64} (h0 : 0 ≤ x.toInt) (k0 : 0 < k.toInt) : (x / k).toInt = x.toInt / k.toInt := by
  rw [Int64.toInt_div, Int.tdiv_eq_ediv_of_nonneg h0, mi_bm64]
  have h1 : x.toInt / k.toInt ≤ x.toInt := Int.ediv_le_self _ h0
  have h2 : 0 ≤ x.toInt / k.toInt := Int.ediv_nonneg h0 (by omega)
  have := mj_hi x
  omega
theorem mq_n_of {x : Int64} (h : 0 ≤ x.toInt) : mq_n x = x.toInt.toNat := by
  have h3 : x.toBitVec.toInt = x.toInt := rfl
  rw [BitVec.toInt_eq_toNat_cond] at h3
  have := x.toBitVec.isLt
  unfold mq_n
  split at h3 <;> omega
theorem mj_full {x : Int64} (h : 0 ≤ x.toInt) : (x &&& 4294967295).toInt = x.toInt % 4294967296 := by
  have h1 := mq_n_full x
  rw [mq_n_of h] at h1
  rw [mq_n_int (by omega), h1]
  omega
theorem mj_top {x : Int64} (h : 0 ≤ x.toInt) (h1 : x.toInt < 4294967296) : (mm_lush x 24).toInt32.toInt = x.toInt / 16777216 := by
  have e : mq_n (mm_lush x 24) = x.toInt.toNat / 16777216 := by
    show (mm_lush x 24).toBitVec.toNat = _
    rw [mi_lush_bv (by decide) (by decide)]
    show (x.toBitVec >>> 24).toNat = _
    rw [BitVec.toNat_ushiftRight, Nat.shiftRight_eq_div_pow]
    have : x.toBitVec.toNat = x.toInt.toNat := mq_n_of h
    rw [this]
  rw [mi_64to32 (by omega), e]
  omega
def mc_B : Nat := 4294967296
/-- the number that is told lies in its room -/
def mc_ok (V lw R d : Nat) : Prop := V * mc_B + lw + R ≤ 256 ^ d * mc_B
theorem mc_ok_m {V lw R lw2 R2 d : Nat} (h : mc_ok V lw R d) (e : lw2 + R2 ≤ lw + R) : mc_ok V lw2 R2 d := by
  unfold mc_ok at h ⊢
  generalize V * mc_B = a at h ⊢
  generalize 256 ^ d * mc_B = b at h ⊢
  omega
theorem mc_ok_c {V lw R d : Nat} (h : mc_ok V lw R d) (e : 4294967296 ≤ lw) : mc_ok (V + 1) (lw - 4294967296) R d := by
  unfold mc_ok at h ⊢
  have hB : mc_B = 4294967296 := rfl
  rw [Nat.add_mul, Nat.one_mul]
  generalize V * mc_B = a at h ⊢
  generalize 256 ^ d * mc_B = b at h ⊢
  omega
theorem mc_ok_b {V lw R d : Nat} (h : mc_ok V lw R d) (e : 4294967296 ≤ lw) (r : 0 < R) : V + 1 < 256 ^ d := by
  unfold mc_ok at h
  have hB : mc_B = 4294967296 := rfl
  have b0 : 0 < mc_B := by rw [hB]; decide
  have h2 : (V + 1) * mc_B < 256 ^ d * mc_B := by
    rw [Nat.add_mul, Nat.one_mul]
    generalize V * mc_B = a at h ⊢
    generalize 256 ^ d * mc_B = b at h ⊢
    omega
  exact Nat.lt_of_mul_lt_mul_right h2
theorem mc_ok_e (lw : Nat) : lw / 16777216 * mc_B + lw * 256 % 4294967296 = lw * 256 := by
  have hB : mc_B = 4294967296 := rfl
  rw [hB]
  omega
theorem mc_ok_n {V lw R d : Nat} (h : mc_ok V lw R d) : mc_ok (256 * V + lw / 16777216) (lw * 256 % 4294967296) (R * 256) (d + 1) := by
  unfold mc_ok at h ⊢
  have e := mc_ok_e lw
  have h2 := Nat.mul_le_mul_left 256 h
  rw [Nat.mul_add, Nat.mul_add] at h2
  rw [Nat.add_mul, Nat.mul_assoc 256 V, Nat.pow_succ, Nat.mul_comm (256 ^ d) 256, Nat.mul_assoc 256 (256 ^ d)]
  generalize 256 * (V * mc_B) = p at h2 ⊢
  generalize 256 * (256 ^ d * mc_B) = q at h2 ⊢
  generalize lw / 16777216 * mc_B = x at e ⊢
  generalize lw * 256 % 4294967296 = y at e ⊢
  omega
theorem mc_ok_0 : mc_ok 0 0 4294967295 1 := by
  unfold mc_ok
  have hB : mc_B = 4294967296 := rfl
  rw [hB]
  decide
/-- the digits of the class -/
def mq_dg (N : mm_M) : Nat → Nat := fun j => (N.1 102 j).toInt.toNat
def mq_cs (M : mm_M) : Nat → Nat := fun i => mc_ph (M.1 81 i).toInt.toNat
/-- what class and reference have in common, and how far it goes -/
def mq_ce (M N : mm_M) (st d : Nat) : Prop := ∃ R lw : Nat, (M.2.1 80 4 = N.2.1 84 33 ∧ (N.2.1 84 33).toInt = R ∧ 16777216 ≤ R ∧ R ≤ 4294967295) ∧ (M.2.1 80 15 = N.2.1 84 53 ∧ (N.2.1 84 53).toInt = lw ∧ lw ≤ 4294967295) ∧
  ((N.1 84 54).toInt = d ∧ 1 ≤ d ∧ (M.1 5 1).toInt = ((13 + d : Nat) : Int) ∧ M.1 5 2 = 0 ∧ (N.1 84 41).toInt = 13) ∧ (∀ j, j < d → M.1 6 (13 + j) = N.1 102 j ∧ 0 ≤ (N.1 102 j).toInt ∧ (N.1 102 j).toInt ≤ 255) ∧ (∀ j, j < 13 → M.1 6 j = N.1 100 j ∧ 0 ≤ (M.1 6 j).toInt ∧ (M.1 6 j).toInt < 256) ∧
  (∀ i, i < 14340 → M.1 81 i = N.1 98 (mq_mp i) ∧ 31 ≤ (M.1 81 i).toInt ∧ (M.1 81 i).toInt ≤ 2017) ∧ mc_inv (d - 1) R (mc_sum (mq_cs M) 14340) st ∧ mc_ok (mc_val (mq_dg N) d) lw R d ∧ mq_T M N
/-- a digit goes out -/
theorem mq_cout {M N : mm_M} {st d R lw : Nat} (h1 : M.2.1 80 4 = N.2.1 84 33 ∧ (N.2.1 84 33).toInt = R ∧ 65536 ≤ R ∧ R ≤ 4294967295) (h2 : M.2.1 80 15 = N.2.1 84 53 ∧ (N.2.1 84 53).toInt = lw ∧ lw ≤ 4294967295) (h3 : (N.1 84 54).toInt = d ∧ 1 ≤ d ∧ (M.1 5 1).toInt = ((13 + d : Nat) : Int) ∧ M.1 5 2 = 0 ∧ (N.1 84 41).toInt = 13) (h4 : ∀ j, j < d → M.1 6 (13 + j) = N.1 102 j ∧ 0 ≤ (N.1 102 j).toInt ∧ (N.1 102 j).toInt ≤ 255) (h5 : ∀ j, j < 13 → M.1 6 j = N.1 100 j ∧ 0 ≤ (M.1 6 j).toInt ∧ (M.1 6 j).toInt < 256) (h6 : ∀ i, i < 14340 → M.1 81 i = N.1 98 (mq_mp i) ∧ 31 ≤ (M.1 81 i).toInt ∧ (M.1 81 i).toInt ≤ 2017) (h7 : mc_inv (d - 1) R (mc_sum (mq_cs M) 14340) st) (h8 : mc_ok (mc_val (mq_dg N) d) lw R d) (h9 : mq_T M N) (hst : st ≤ 90000) : mq_2 mq_F (mf_172_j113 M) (mf_282_j93 N) (fun _ M2 _ N2 => ∃ d2, mq_ce M2 N2 st d2) := by
  obtain ⟨r1, r2, r3, r4⟩ := h1
  obtain ⟨l1, l2, l3⟩ := h2
  obtain ⟨d1, d2, d3, d4, d5⟩ := h3
  have hb := mc_inv_b h7 r4
  unfold mf_172_j113 mf_282_j93
  rw [r1]
  by_cases c : N.2.1 84 33 < 16777216
  · rw [if_pos c, if_pos c]
    rw [Int64.lt_iff_toInt_lt, r2] at c
    simp only [Int64.reduceToInt] at c
    have hin : mm_in (N.1 84 54) 12600 = true := mq_inr (by omega) (by omega)
    have nd : (N.1 84 54).toNatClampNeg = d := by rw [mq_cl]; omega
    have tp := mj_top (x := N.2.1 84 53) (by omega) (by omega)
    have tp0 : 0 ≤ (mm_lush (N.2.1 84 53) 24).toInt32.toInt := by omega
    have tp1 : (mm_lush (N.2.1 84 53) 24).toInt32.toInt < 256 := by omega
    have x57 : mf_57 (mm_lush (M.2.1 80 15) 24).toInt32 (mm_pl M 80 4 (N.2.1 84 33 * 256)) = some (.inl (), mm_pi (mm_pi (mm_pl M 80 4 (N.2.1 84 33 * 256)) 6 (13 + d) (mm_lush (N.2.1 84 53) 24).toInt32) 5 1 (M.1 5 1 + 1)) := by
      unfold mf_57
      have e0 : (mm_pl M 80 4 (N.2.1 84 33 * 256)).1 5 1 = M.1 5 1 := rfl
      have e1 : (M.1 5 1).toNatClampNeg = 13 + d := by rw [mq_cl]; omega
      rw [e0, if_pos (by rw [Int32.lt_iff_toInt_lt]; simp only [Int32.reduceToInt]; omega), if_pos (mq_inr (by omega) (by omega)), e1, l1, mi_and255 tp0 tp1]
    rw [x57, mq_Bs, if_pos hin, nd]
    have e256 : (N.2.1 84 33 * 256).toInt = ((R * 256 : Nat) : Int) := by rw [mj_mul, r2]; simp only [Int64.reduceToInt]; omega
    have el : (N.2.1 84 53 * 256).toInt = ((lw * 256 : Nat) : Int) := by rw [mj_mul, l2]; simp only [Int64.reduceToInt]; omega
    have elf : (N.2.1 84 53 * 256 &&& 4294967295).toInt = ((lw * 256 % 4294967296 : Nat) : Int) := by rw [mj_full (by omega), el]; rfl
    have ed : (N.1 84 54 + 1).toInt = ((d + 1 : Nat) : Int) := by rw [mi_add]; simp only [Int32.reduceToInt]; omega
    have es : (M.1 5 1 + 1).toInt = ((13 + (d + 1) : Nat) : Int) := by rw [mi_add]; simp only [Int32.reduceToInt]; omega
    refine mq_2_ret ⟨d + 1, R * 256, lw * 256 % 4294967296, ⟨?_, ?_, by omega, by omega⟩, ⟨?_, ?_, by omega⟩, ⟨ed, by omega, es, d4, d5⟩, fun j hj => ?_, fun j hj => ?_, h6, ?_, ?_, h9⟩
    · show N.2.1 84 33 * 256 = mm_lshl (N.2.1 84 33) 8
      exact mj_shl8 _
    · show (mm_lshl (N.2.1 84 33) 8).toInt = _
      rw [← mj_shl8]; exact e256
    · show M.2.1 80 15 * 256 &&& 4294967295 = mm_lshl (N.2.1 84 53) 8 &&& 4294967295
      rw [l1, mj_shl8]
    · show (mm_lshl (N.2.1 84 53) 8 &&& 4294967295).toInt = _
      rw [← mj_shl8]; exact elf
    · show (mm_pi (mm_pl M 80 4 (N.2.1 84 33 * 256)) 6 (13 + d) (mm_lush (N.2.1 84 53) 24).toInt32).1 6 (13 + j) = (mm_pi (mm_pl N 84 33 (mm_lshl (N.2.1 84 33) 8)) 102 d (mm_lush (N.2.1 84 53) 24).toInt32).1 102 j ∧ 0 ≤ ((mm_pi (mm_pl N 84 33 (mm_lshl (N.2.1 84 33) 8)) 102 d (mm_lush (N.2.1 84 53) 24).toInt32).1 102 j).toInt ∧ ((mm_pi (mm_pl N 84 33 (mm_lshl (N.2.1 84 33) 8)) 102 d (mm_lush (N.2.1 84 53) 24).toInt32).1 102 j).toInt ≤ 255
      by_cases q : j = d
      · subst q
        rw [mq_ps, mq_ps]
        exact ⟨rfl, tp0, by omega⟩
      · rw [mq_pj (by omega), mq_pj q]
        exact h4 j (by omega)
    · show (mm_pi (mm_pl M 80 4 (N.2.1 84 33 * 256)) 6 (13 + d) (mm_lush (N.2.1 84 53) 24).toInt32).1 6 j = N.1 100 j ∧ 0 ≤ ((mm_pi (mm_pl M 80 4 (N.2.1 84 33 * 256)) 6 (13 + d) (mm_lush (N.2.1 84 53) 24).toInt32).1 6 j).toInt ∧ ((mm_pi (mm_pl M 80 4 (N.2.1 84 33 * 256)) 6 (13 + d) (mm_lush (N.2.1 84 53) 24).toInt32).1 6 j).toInt < 256
      rw [mq_pj (by omega)]
      exact h5 j hj
    · have := mc_inv_n h7
      rw [show d + 1 - 1 = d - 1 + 1 from by omega]
      exact this
    · have e1 : mc_val (fun j => ((mm_pi (mm_pl N 84 33 (mm_lshl (N.2.1 84 33) 8)) 102 d (mm_lush (N.2.1 84 53) 24).toInt32).1 102 j).toInt.toNat) (d + 1) = 256 * mc_val (mq_dg N) d + lw / 16777216 := by
        show 256 * mc_val _ d + ((mm_pi (mm_pl N 84 33 (mm_lshl (N.2.1 84 33) 8)) 102 d (mm_lush (N.2.1 84 53) 24).toInt32).1 102 d).toInt.toNat = _
        rw [mq_ps, mc_val_c (n := d) (g := mq_dg N) (fun j hj => by rw [mq_pj (by omega)]; rfl), tp, l2]
        omega
      show mc_ok (mc_val (fun j => ((mm_pi (mm_pl N 84 33 (mm_lshl (N.2.1 84 33) 8)) 102 d (mm_lush (N.2.1 84 53) 24).toInt32).1 102 j).toInt.toNat) (d + 1)) (lw * 256 % 4294967296) (R * 256) (d + 1)
      rw [e1]
      exact mc_ok_n h8
  · rw [if_neg c, if_neg c]
    rw [Int64.lt_iff_toInt_lt, r2] at c
    simp only [Int64.reduceToInt] at c
    exact mq_2_ret ⟨d, R, lw, ⟨r1, r2, by omega, r4⟩, ⟨l1, l2, l3⟩, ⟨d1, d2, d3, d4, d5⟩, h4, h5, h6, h7, h8, h9⟩
