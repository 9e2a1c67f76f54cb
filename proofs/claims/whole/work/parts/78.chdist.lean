/-! FORM 10: distances, in step -/
theorem mj_of32 {x : Int32} {y : Int64} {n : Nat} (hx : x.toInt = n) (hy : mq_n y = n) : x.toInt64 = y := by
  apply mq_n_inj
  rw [mq_n_i32 (by omega), hy, hx]; rfl
theorem mi_cs' {s : Int32} {j : Nat} (hj : s.toInt = j) (h4 : 4 ≤ j) (h64 : j < 64) : (s / 2 - 1).toInt = ((j / 2 - 1 : Nat) : Int) ∧ (mm_lshl ((2 : Int64) + (mm_rem s 2).toInt64) (s / 2 - 1)).toInt = (((2 + j % 2) * 2 ^ (j / 2 - 1) : Nat) : Int) ∧ (2 + j % 2) * 2 ^ (j / 2 - 1) ≤ 3221225472 := by
  obtain ⟨k, rfl⟩ : ∃ k, j = k + 4 := ⟨j - 4, by omega⟩
  have e := mi_ofk hj
  clear hj
  subst e
  have h1 := mi_cs ⟨k, by omega⟩
  have h2 := mi_csp ⟨k, by omega⟩
  exact ⟨h1.1, h1.2, h2⟩
theorem mq_cdist {M N : mm_M} {len : Int32} (hW : mq_W M N) (hc : mq_cx M N) (l0 : 2 ≤ len.toInt) (l1 : len.toInt ≤ 273) : mq_2 mq_XE (mf_170 len M) (mf_243 len N) (fun v M2 b N2 => v = b ∧ 1 ≤ v.toInt ∧ v.toInt ≤ 8589934592 ∧ mq_W M2 N2 ∧ mq_cx M2 N2) := by
  have ef : ∃ (fam : Int32) (x : Nat), mm_min (len - 2) 3 = fam ∧ fam.toInt = x ∧ x ≤ 3 ∧ mf_243 len N = mf_243_j14 fam N := by
    have e : (len - 2).toInt = len.toInt - 2 := by rw [mi_sub]; simp only [Int32.reduceToInt]; omega
    unfold mf_243 mm_min
    by_cases c : 3 < len - 2
    · rw [if_pos c, if_pos c]
      exact ⟨3, 3, rfl, rfl, by decide, rfl⟩
    · rw [if_neg c, if_neg c]
      rw [Int32.lt_iff_toInt_lt, e] at c
      simp only [Int32.reduceToInt] at c
      exact ⟨_, (len - 2).toInt.toNat, rfl, by omega, by omega, rfl⟩
  obtain ⟨fam, x, e1, e2, e3, e4⟩ := ef
  rw [e4]
  unfold mf_170 mf_243_j14
  rw [e1]
  have e5 : (1460 + 64 * fam).toInt = ((1460 + 64 * x : Nat) : Int) := by rw [mi_add, mi_mul, e2]; simp only [Int32.reduceToInt]; omega
  have mm : ∀ i, 432 ≤ i → i < 1716 → i < 14340 ∧ i = mq_mp i := by
    intro i h1 h2
    refine ⟨by omega, ?_⟩
    unfold mq_mp
    repeat' split
    all_goals omega
  refine mq_2_B (mq_ctree hW hc (bits := 6) (B := 6) e5 e5 rfl (by decide) (fun k hk => mm _ (by omega) (by omega))) ?_ ?_
  · rintro s M2 b N2 ⟨rfl, ⟨j, hj, hj2⟩, w2, c2⟩
    have hj2 : j < 64 := hj2
    by_cases c : s < 4
    · rw [if_pos c, if_pos c]
      rw [Int32.lt_iff_toInt_lt, hj] at c
      simp only [Int32.reduceToInt] at c
      have a1 : (s + 1).toInt = j + 1 := by rw [mi_add, hj]; simp only [Int32.reduceToInt]; omega
      have a2 : (s + 1).toInt64 = s.toInt64 + 1 := by
        apply Int64.toInt_inj.mp
        rw [Int32.toInt_toInt64, mj_add, Int32.toInt_toInt64, a1, hj]; simp only [Int64.reduceToInt]; omega
      exact mq_2_ret ⟨a2, by rw [Int32.toInt_toInt64]; omega, by rw [Int32.toInt_toInt64]; omega, w2, c2⟩
    · rw [if_neg c, if_neg c]
      rw [Int32.lt_iff_toInt_lt, hj] at c
      simp only [Int32.reduceToInt] at c
      obtain ⟨t1, t2, t3⟩ := mi_cs' hj (by omega) hj2
      generalize (2 + j % 2) * 2 ^ (j / 2 - 1) = L at t2 t3
      generalize mm_lshl ((2 : Int64) + (mm_rem s 2).toInt64) (s / 2 - 1) = l at t2 ⊢
      by_cases d : s < 14
      · rw [if_pos d, if_pos d]
        rw [Int32.lt_iff_toInt_lt, hj] at d
        simp only [Int32.reduceToInt] at d
        have g0 : (s - 4).toInt = ((j - 4 : Nat) : Int) := by rw [mi_sub, hj]; simp only [Int32.reduceToInt]; omega
        have g3 : (32 * (s - 4)).toInt = ((32 * (j - 4) : Nat) : Int) := by rw [mi_mul, g0]; simp only [Int32.reduceToInt]; omega
        have g4 : (32 * s).toInt = ((32 * j : Nat) : Int) := by rw [mi_mul, hj]; simp only [Int32.reduceToInt]; omega
        have g1 : (1716 + 32 * (s - 4)).toInt = ((1716 + 32 * (j - 4) : Nat) : Int) := by rw [mi_add, g3]; simp only [Int32.reduceToInt]; omega
        have g2 : (1716 + 32 * s).toInt = ((1716 + 32 * j : Nat) : Int) := by rw [mi_add, g4]; simp only [Int32.reduceToInt]; omega
        have hpw : 2 ^ (j / 2 - 1) ≤ 2 ^ 5 := Nat.pow_le_pow_right (by decide) (by omega)
        refine mq_2_B (mq_cturn w2 c2 g1 g2 t1 (by omega) (fun k hk => ⟨by omega, ?_⟩)) ?_ ?_
        · unfold mq_mp
          repeat' split
          all_goals omega
        · rintro r M3 b N3 ⟨⟨y, hy, hb, hy2⟩, w3, c3⟩
          have q : r.toInt64 = b := mj_of32 hy hb
          have q2 : b.toInt = y := by rw [← q, Int32.toInt_toInt64, hy]
          have q5 : (l + 1).toInt = L + 1 := by rw [mj_add, t2]; simp only [Int64.reduceToInt]; omega
          have q6 : (l + b).toInt = L + y := by rw [mj_add, t2, q2]; omega
          have q3 : (l + 1 + r.toInt64).toInt = L + 1 + y := by rw [q, mj_add, q5, q2]; omega
          have q4 : (l + b + 1).toInt = L + 1 + y := by rw [mj_add, q6]; simp only [Int64.reduceToInt]; omega
          exact mq_2_ret ⟨Int64.toInt_inj.mp (by rw [q3, q4]), by omega, by omega, w3, c3⟩
        · intro M3 b N3 hx
          exact mq_1_ret hx
      · rw [if_neg d, if_neg d]
        rw [Int32.lt_iff_toInt_lt, hj] at d
        simp only [Int32.reduceToInt] at d
        have u1 : (s / 2 - 1 - 4).toInt = ((j / 2 - 5 : Nat) : Int) := by rw [mi_sub, t1]; simp only [Int32.reduceToInt]; omega
        have u2 : (s / 2 - 1 - 1).toInt = ((j / 2 - 5 : Nat) : Int) + 3 := by rw [mi_sub, t1]; simp only [Int32.reduceToInt]; omega
        have u3 : (l + 1).toInt = L + 1 := by rw [mj_add, t2]; simp only [Int64.reduceToInt]; omega
        have hpw : 2 ^ (j / 2 - 5) ≤ 2 ^ 26 := Nat.pow_le_pow_right (by decide) (by omega)
        refine mq_2_B (mq_cplain w2 c2 (T := s / 2 - 1 - 4) (i := s / 2 - 1 - 1) (d := l + 1) u1 (by omega) u2 (by omega) (by omega)) ?_ ?_
        · rintro v M3 b N3 ⟨hv, hb, w3, c3⟩
          unfold mf_170_j107
          refine mq_2_B (mq_cturn w3 c3 (f := 2036) (g := 2228) (F := 2036) (G := 2228) (bits := 4) (B := 4) rfl rfl rfl (by decide) (fun k hk => ⟨by omega, ?_⟩)) ?_ ?_
          · have hk : k < 16 := hk
            unfold mq_mp
            repeat' split
            all_goals omega
          · rintro r M4 b4 N4 ⟨⟨y, hy, hb4, hy2⟩, w4, c4⟩
            have hy2 : y < 16 := hy2
            have q : r.toInt64 = b4 := mj_of32 hy hb4
            have q2 : b4.toInt = y := by rw [← q, Int32.toInt_toInt64, hy]
            have s4 : mq_n (mm_lshl b 4) = 16 * mq_n b := by
              have := mq_n_shl (x := b) (k := 4) (by decide) (by decide) (by rw [show (4 : Int32).toInt.toNat = 4 from rfl]; omega)
              rw [this, show (4 : Int32).toInt.toNat = 4 from rfl]
            have s5 : (mm_lshl b 4).toInt = 16 * mq_n b := by rw [mq_n_int (by rw [s4]; omega), s4]; omega
            have q3 : (v + r.toInt64).toInt = L + 1 + 16 * mq_n b + y := by rw [q, mj_add, hv, u3, q2]; omega
            have q6 : (l + mm_lshl b 4).toInt = L + 16 * mq_n b := by rw [mj_add, t2, s5]; omega
            have q7 : (l + mm_lshl b 4 + b4).toInt = L + 16 * mq_n b + y := by rw [mj_add, q6, q2]; omega
            have q4 : (l + mm_lshl b 4 + b4 + 1).toInt = L + 1 + 16 * mq_n b + y := by rw [mj_add, q7]; simp only [Int64.reduceToInt]; omega
            exact mq_2_ret ⟨Int64.toInt_inj.mp (by rw [q3, q4]), by omega, by omega, w4, c4⟩
          · intro M4 b4 N4 hx
            exact mq_1_ret hx
        · intro M3 b N3 hx
          exact mq_1_B (mq_xd hx (fun z => md_235 z mq_ob_refl)) (fun _ _ hx => mq_1_ret hx)
  · intro M2 b N2 hx
    refine mq_1_ite (fun _ => mq_1_ret hx) (fun _ => mq_1_ite (fun _ => ?_) (fun _ => ?_))
    · exact mq_1_B (mq_xd hx (fun z => md_235 z mq_ob_refl)) (fun _ _ hx => mq_1_ret hx)
    · exact mq_1_B (mq_xd hx (fun z => md_236 z)) (fun _ _ hx => mq_1_B (mq_xd hx (fun z => md_235 z mq_ob_refl)) (fun _ _ hx => mq_1_ret hx))
theorem mq_196bad {N : mm_M} {len : Int32} {d : Int64} (w : N.1 84 7 = 0) (h : (N.1 84 4).toInt < d.toInt) : mf_196 len d 0 N = some (.inl (), mm_pi N 84 7 1) := by
  unfold mf_196
  have e1 : mf_196_j26 len d N = some (.inl (), mm_pi N 84 7 1) := rfl
  have es : N.1 84 4 - 0 = N.1 84 4 := Int32.sub_zero _
  rw [if_pos w, e1, es]
  by_cases c : d = 0
  · rw [if_pos c]
  · rw [if_neg c, if_pos (by rw [Int64.lt_iff_toInt_lt, Int32.toInt_toInt64]; exact h)]
