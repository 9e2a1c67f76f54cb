/-! FORMS 4 AND 5: WORDS, WHOLE -/
theorem mq_S_lim {M N : mm_M} (h : mq_S M N) : 0 ≤ (M.1 1 2).toInt ∧ (M.1 1 2).toInt ≤ (M.1 1 1).toInt ∧ (M.1 1 1).toInt ≤ 10000 ∧ 0 ≤ mq_rem M ∧ mq_rem M ≤ 80007 := by
  obtain ⟨⟨t1, t2, t3, t4⟩, hU, hV, ⟨g1, g2, g3, g4⟩, ⟨w, a1, a2, a3, a4⟩⟩ := h
  refine ⟨a1, by omega, t3, ?_, ?_⟩
  · unfold mq_rem; omega
  · unfold mq_rem; omega
theorem mq_S_bad {M N : mm_M} (h : mq_S M N) : mq_X M (mm_pi N 84 7 1) := by
  have := mq_S_lim h
  exact ⟨h.1, h.2.1, h.2.2.1, rfl, by omega, by omega⟩
/-- one word again, byte by byte -/
theorem mq_wrep {M N : mm_M} {P Z v1 v2 v3 v4 v5 v6 v8 v9 : Int32} (h : mq_S M N) (p0 : 0 ≤ P.toInt) (p1 : P.toInt < (M.1 3 1).toInt) (z0 : 0 ≤ Z.toInt) (z1 : Z.toInt ≤ 20000) (hc : ¬ v9 < v3) (c0 : 0 ≤ v9.toInt) (c1 : v9.toInt < 4096) (hP : N.1 91 v9.toNatClampNeg = P) : mq_2 mq_XE (mf_54_L22 P Z 0 M) (mf_215_L173 v1 v2 v3 v4 v5 v6 Z v8 v9 0 N) (fun _ M2 _ N2 => mq_S M2 N2 ∧ (M2.1 3 1).toInt = (M.1 3 1).toInt + Z.toInt ∧ mq_rem M2 = mq_rem M) := by
  unfold mf_54_L22 mf_215_L173
  refine mq_2_L (I := fun a M2 b N2 => a = b ∧ 0 ≤ a.toInt ∧ a.toInt ≤ Z.toInt ∧ mq_S M2 N2 ∧ (M2.1 3 1).toInt = (M.1 3 1).toInt + a.toInt ∧ mq_rem M2 = mq_rem M ∧ N2.1 91 v9.toNatClampNeg = P) (J := fun M _ N => mq_X M N) (m := fun a _ => (Z.toInt - a.toInt).toNat) ?_ ?_ ⟨rfl, by decide, z0, h, by simp only [Int32.reduceToInt]; omega, rfl, hP⟩
  · rintro k M2 b N2 ⟨rfl, k0, k1, hS, hs, hr, hP⟩
    unfold mf_54_b22 mf_215_b173
    by_cases c : k < Z
    · rw [if_pos c, if_pos c, if_pos hS.2.2.2.2.1, if_neg hc, if_pos (mq_inr c0 (by omega)), hP]
      rw [Int32.lt_iff_toInt_lt] at c
      obtain ⟨u1, u2, u3, u4⟩ := hS.2.1
      have ek : (k + 1).toInt = k.toInt + 1 := by rw [mi_add]; simp only [Int32.reduceToInt]; omega
      have e1 : (P + k).toInt = P.toInt + k.toInt := by rw [mi_add]; omega
      obtain ⟨q1, q2, q3⟩ := u4 (P + k).toNatClampNeg (by rw [mq_cl]; omega)
      rw [if_pos (mq_inr (by omega) (by omega)), if_pos (mq_inr (by omega) (by omega)), q1]
      rw [q1] at q2 q3
      unfold mf_215_j214
      refine mq_2_B (mq_2_K (mq_put hS q2 q3) mk_51 mk_194) ?_ ?_
      · rintro _ M3 b N3 ⟨⟨rfl, hS3, hs3, _, hr3⟩, k3, k4⟩
        exact mq_2_ret (.inl ⟨_, _, rfl, rfl, ⟨rfl, by omega, by omega, hS3, by omega, by omega, by rw [(k4 91 _ rfl).1]; exact hP⟩, by omega⟩)
      · rintro M3 b N3 ⟨⟨rfl, hx⟩, _, _⟩
        exact mq_1_ret (.inl ⟨_, rfl, hx⟩)
    · rw [if_neg c, if_neg c]
      rw [Int32.lt_iff_toInt_lt] at c
      exact mq_2_ret (.inr ⟨_, _, rfl, rfl, hS, by omega, hr⟩)
  · intro M2 b N2 hx
    exact mq_xd hx (fun z => md_215_L173 z mq_ob_refl)
/-- the words that are told -/
def mq_wd (c : Int32) (sz : Int) (M N : mm_M) : Prop := ∀ j : Nat, c.toInt + 2 ≤ j → (j : Int) < (M.1 35 10).toInt → M.1 36 j = N.1 91 j ∧ M.1 37 j = N.1 92 j ∧ 0 ≤ (M.1 36 j).toInt ∧ 1 ≤ (M.1 37 j).toInt ∧ (M.1 36 j).toInt < sz ∧ (M.1 36 j).toInt + (M.1 37 j).toInt ≤ sz + 1
/-- a word is put -/
theorem mq_wput {M N : mm_M} {v1 v2 v4 v5 v8 c code : Int32} (h : mq_S M N) (hc : M.1 35 8 = c) (c0 : 4 ≤ c.toInt) (c1 : c.toInt ≤ 256) (d0 : 0 ≤ code.toInt) (d1 : code.toInt < (M.1 35 10).toInt) (d2 : (M.1 35 10).toInt ≤ 4096) (d3 : code.toInt < c.toInt ∨ c.toInt + 2 ≤ code.toInt) (hw : mq_wd c (M.1 3 1).toInt M N) {γ : Type} {E2 : mm_M → γ → mm_M → Prop} {α : Type} {R : α → mm_M → γ → mm_M → Prop} {f : Unit → mm_M → mm_O α} {g : Int32 → mm_M → mm_O γ} (hs : ∀ M2 N2 Z, mq_S M2 N2 → (M2.1 35 14 = Z) → M2.1 35 13 = M.1 3 1 → 1 ≤ Z.toInt → (M2.1 3 1).toInt = (M.1 3 1).toInt + Z.toInt → mq_rem M2 = mq_rem M → mq_kp [(3, some 1), (4, none), (35, some 13), (35, some 14)] M M2 → mq_kp [(84, some 4), (84, some 7), (86, none)] N N2 → mq_2 E2 (f () M2) (g Z N2) R) (hd : ∀ M N Z, mq_X M N → mq_1 (g Z N) (fun c N2 => E2 M c N2)) : mq_2 E2 (mm_B (mf_111 code M) f) (if code < c then (mm_B (mf_215_L173 v1 v2 c v4 v5 (N.1 84 4) 1 v8 code 0 N) (fun _ M1 => g 1 M1)) else (if (N.1 84 7) = 0 then (if mm_in code 4096 then mm_B (mf_215_L173 v1 v2 c v4 v5 (N.1 84 4) (N.1 92 code.toNatClampNeg) v8 code 0 N) (fun _ M5 => g (N.1 92 code.toNatClampNeg) M5) else none) else (mm_B (mf_215_L173 v1 v2 c v4 v5 (N.1 84 4) 0 v8 code 0 N) (fun _ M9 => g 0 M9)))) R := by
  unfold mf_111
  rw [hc]
  by_cases a : code < c
  · rw [if_pos a, if_pos a]
    have a2 := a
    rw [Int32.lt_iff_toInt_lt] at a2
    unfold mf_215_L173
    rw [mm_L_eq]
    unfold mf_215_b173
    rw [if_pos (by decide), if_pos h.2.2.2.2.1, if_pos a]
    unfold mf_215_j214
    rw [mq_Ba, mq_Ba, mq_Ba]
    refine mq_2_B (mq_2_K (mq_put h d0 (by omega)) mk_51 mk_194) ?_ ?_
    · rintro _ M2 b N2 ⟨⟨rfl, hS, hs2, _, hr⟩, k1, k2⟩
      rw [mq_Bs, mq_Bs]
      show mq_2 E2 _ (mm_B (mm_L _ (0 + 1) N2) _) R
      rw [mm_L_eq, if_neg (by decide), mq_Bs]
      show mq_2 E2 _ (mm_B (some (Sum.inl (), N2)) _) R
      rw [mq_Bs]
      exact hs _ _ 1 hS rfl rfl (by decide) hs2 hr (mq_kp_pi (mq_kp_pi (mq_kp_sub k1 rfl) rfl) rfl) (mq_kp_sub k2 rfl)
    · rintro M2 b N2 ⟨⟨rfl, hx⟩, _, _⟩
      rw [mq_Bs]
      exact mq_1_B (mq_xd hx (fun z => md_215_L173 (v1 := v1) (v2 := v2) (v3 := c) (v4 := v4) (v5 := v5) (v6 := N.1 84 4) (v7 := 1) (v8 := v8) (v9 := code) (s := 0 + 1) z mq_ob_refl)) (fun _ _ hx => hd _ _ _ hx)
  · rw [if_neg a, if_neg a, if_pos h.2.2.2.2.1]
    have a2 := a
    rw [Int32.lt_iff_toInt_lt] at a2
    have hin : mm_in code 4096 = true := mq_inr d0 (by omega)
    rw [if_pos hin, if_pos hin, if_pos hin]
    obtain ⟨w1, w2, w3, w4, w5, w6⟩ := hw code.toNatClampNeg (by rw [mq_cl]; omega) (by rw [mq_cl]; omega)
    obtain ⟨u1, u2, u3, u4⟩ := h.2.1
    unfold mf_54
    rw [if_neg (show ¬ M.1 36 code.toNatClampNeg < 0 from by rw [Int32.lt_iff_toInt_lt]; simp only [Int32.reduceToInt]; omega), if_pos (show M.1 36 code.toNatClampNeg < M.1 3 1 from by rw [Int32.lt_iff_toInt_lt]; exact w5)]
    unfold mf_54_j17
    rw [mq_27, mq_Bs, mq_Ba, mq_Ba, ← w2]
    refine mq_2_B (mq_2_K (mq_wrep h w3 w5 (by omega) (by omega) a d0 (by omega) w1.symm) mk_54_L22 mk_215_L173) ?_ ?_
    · rintro _ M2 b N2 ⟨⟨hS, hs2, hr⟩, k1, k2⟩
      rw [mq_Bs, if_pos hin, mq_Bs]
      refine hs _ _ _ hS ?_ rfl w4 hs2 hr (mq_kp_pi (mq_kp_pi (mq_kp_sub k1 rfl) rfl) rfl) ?_
      · show M2.1 37 code.toNatClampNeg = M.1 37 code.toNatClampNeg
        rw [(k1 37 _ rfl).1]
      · exact mq_kp_sub k2 rfl
    · rintro M2 b N2 ⟨hx, _, _⟩
      exact hd _ _ _ hx
