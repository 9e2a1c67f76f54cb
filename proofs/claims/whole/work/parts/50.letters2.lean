/-! BLOCKS: the letters of a block, in step -/
theorem mq_xd_sum {α β : Type} {M N : mm_M} {y : mm_O (α ⊕ β)} (h : mq_1 y (fun _ N2 => mq_X M N2)) : mq_1 y (fun t N => (∃ b, t = .inl b ∧ mq_X M N) ∨ (∃ v, t = .inr v ∧ mq_X M N)) := by
  refine mq_1_mono h (fun t _ q => ?_)
  cases t with
  | inl b => exact .inl ⟨b, rfl, q⟩
  | inr b => exact .inr ⟨b, rfl, q⟩
theorem mq_l158d {M N : mm_M} {v1 v2 e b : Int32} (hx : mq_X M N) : mq_1 (mf_208_j158 v1 v2 e b N) (fun t N => (∃ b, t = .inl b ∧ mq_X M N) ∨ (∃ v, t = .inr v ∧ mq_X M N)) := by
  unfold mf_208_j158
  refine mq_1_B (mq_xd hx (fun z => md_198 z)) (fun _ _ hx => ?_)
  exact mq_1_B (mq_xd hx (fun z => md_209 z)) (fun _ _ hx => mq_1_ret (.inl ⟨_, rfl, hx⟩))
theorem mq_letters {M N : mm_M} {nl nd : Nat} {f0 f1 : Nat → Nat} {win bd : Int32} (hS : mq_S M N) (hf : M.1 1 4 = N.1 84 13) (hT : mq_tabs nl nd f0 f1 M N) (hw : win = bd ∨ (32768 ≤ win.toInt ∧ 32768 ≤ bd.toInt)) : mq_2 mq_XE (mf_86 win M) (mf_208 bd N) (fun _ M2 _ N2 => mq_S M2 N2 ∧ M2.1 1 4 = N2.1 84 13 ∧ mq_rem M2 < mq_rem M) := by
  unfold mf_86 mf_208
  refine mq_2_B (E := mq_XE) (P := fun _ M2 _ N2 => mq_S M2 N2 ∧ M2.1 1 4 = N2.1 84 13 ∧ mq_rem M2 < mq_rem M) ?_ ?_ ?_
  · unfold mf_86_L2 mf_208_L2
    refine mq_2_L4 (I := fun (a : Int32) M2 (b : Int32) N2 => b = 1 ∧ 0 ≤ a.toInt ∧ a.toInt + mq_rem M2 ≤ 80007 ∧ mq_S M2 N2 ∧ M2.1 1 4 = N2.1 84 13 ∧ mq_tabs nl nd f0 f1 M2 N2 ∧ mq_rem M2 ≤ mq_rem M) (J := fun M _ N => mq_X M N) (m := fun _ M => (mq_rem M).toNat) ?_ ?_ ⟨rfl, by decide, ?_, hS, hf, hT, Int.le_refl _⟩
    · rintro k M2 b N2 ⟨rfl, k0, k1, hS, hf, hT, hr⟩
      have lim := mq_S_lim hS
      have hT0 := hT
      obtain ⟨t1, t2, t3, t4, t5, t6, t7, t8, t9, t10⟩ := hT
      unfold mf_86_b2 mf_208_b2
      have ek : (k + 1).toInt = k.toInt + 1 := by rw [mi_add]; simp only [Int32.reduceToInt]; omega
      rw [if_pos (show k < 1000000 from by rw [Int32.lt_iff_toInt_lt]; simp only [Int32.reduceToInt]; omega), if_neg (show ¬ (1 : Int32) = 0 from by decide), if_pos hS.2.2.2.2.1]
      refine mq_2_B (mq_2_K (mq_take (p := 17) (cap := 288) (t := 0) (n := nl) (f := f0) (tt := 0) (nn := N2.1 84 20) hS hf t1 t3 (by omega) (by omega) t7 (by omega) rfl t5 t9) mk_103 mk_202) ?_ ?_
      · rintro v M3 b N3 ⟨⟨rfl, s, s1, s2, s3, hS3, hf3, hr3⟩, k3, k4⟩
        have hT3 := mq_tabs_kp hT0 k3 k4 rfl rfl rfl rfl
        have lim3 := mq_S_lim hS3
        rw [if_pos hS3.2.2.2.2.1]
        by_cases c1 : v = 256
        · rw [if_pos c1, if_neg (show ¬ v < 256 from by rw [c1]; decide), if_pos c1]
          refine mq_2_ret (.inr (.inr (.inl ⟨_, _, rfl, rfl, ?_⟩)))
          rw [mm_L_eq, if_pos rfl]
          exact mq_1_ret ⟨hS3, hf3, by omega⟩
        · rw [if_neg c1]
          by_cases c2 : v < 256
          · rw [if_pos c2, if_pos c2]
            rw [Int32.lt_iff_toInt_lt] at c2
            simp only [Int32.reduceToInt] at c2
            refine mq_2_B (mq_2_K (mq_putp hS3 (by omega) c2) mk_52 mk_194) ?_ ?_
            · rintro _ M4 b N4 ⟨⟨rfl, hS4, hp4, _, _, hr4⟩, k5, k6⟩
              rw [if_neg (show ¬ (1 : Int32) = 0 from by decide), ← hp4]
              have hT4 := mq_tabs_kp hT3 k5 k6 rfl rfl rfl rfl
              refine mq_2_ret (.inl ⟨_, _, rfl, rfl, ⟨rfl, by omega, by omega, hS4, ?_, hT4, by omega⟩, by omega⟩)
              show M4.1 1 4 = N4.1 84 13
              rw [(k5 1 4 rfl).1, (k6 84 13 rfl).1]; exact hf3
            · rintro M4 b N4 ⟨⟨rfl, hx⟩, k5, k6⟩
              rw [if_pos rfl]
              refine mq_1_ret (.inl ⟨_, rfl, mq_X_ob hx (mq_ob_same mq_ob_refl ?_)⟩)
              rw [mi_z, (k6 84 8 rfl).1]
          · rw [if_neg c2, if_neg c2, if_neg c1]
            rw [Int32.lt_iff_toInt_lt] at c2
            simp only [Int32.reduceToInt] at c2
            have c1' : s ≠ 256 := fun q => c1 (Int32.toInt_inj.mp (by rw [s3, q]; rfl))
            unfold mf_86_j58
            by_cases c3 : 285 < v
            · rw [if_pos c3, if_pos c3, mq_27t, mq_Bt, mq_190, mq_Bs]
              exact mq_2_thr (.inl ⟨_, rfl, mq_X_th (mq_S_bad hS3)⟩)
            · rw [if_neg c3, if_neg c3, mq_27, mq_Bs]
              rw [Int32.lt_iff_toInt_lt] at c3
              simp only [Int32.reduceToInt] at c3
              -- after the length
              have fin : ∀ {M4 N4 : mm_M} {len : Int32}, mq_S M4 N4 → M4.1 1 4 = N4.1 84 13 → mq_tabs nl nd f0 f1 M4 N4 → mq_rem M4 ≤ mq_rem M3 → 0 ≤ len.toInt → len.toInt ≤ 1000 → mq_2 (fun M t N => (∃ b, t = .inl b ∧ mq_X M N) ∨ (∃ v, t = .inr v ∧ mq_X M N)) (mm_B (mf_88 M4) (fun r4 M5 => if win < r4 then (mf_86_j85 win k len r4 1 M5) else (mf_86_j85 win k len r4 0 M5))) (mm_B (mf_209 len bd N4) (fun _ M3 => (some (.inl (.inl (1 : Int32)), M3) : mm_O (Int32 ⊕ (Unit ⊕ Unit))))) (fun r M5 t N5 => (∃ a2 b2, r = .inl a2 ∧ t = .inl b2 ∧ (b2 = 1 ∧ 0 ≤ a2.toInt ∧ a2.toInt + mq_rem M5 ≤ 80007 ∧ mq_S M5 N5 ∧ M5.1 1 4 = N5.1 84 13 ∧ mq_tabs nl nd f0 f1 M5 N5 ∧ mq_rem M5 ≤ mq_rem M) ∧ (mq_rem M5).toNat < (mq_rem M2).toNat) ∨ (∃ u v, r = .inr u ∧ t = .inr v ∧ (mq_S M5 N5 ∧ M5.1 1 4 = N5.1 84 13 ∧ mq_rem M5 < mq_rem M)) ∨ (∃ u b2, r = .inr u ∧ t = .inl b2 ∧ mq_1 (mm_L (fun s M => mf_208_b2 bd s M) b2 N5) (fun v N3 => mq_S M5 N3 ∧ M5.1 1 4 = N3.1 84 13 ∧ mq_rem M5 < mq_rem M)) ∨ (∃ a2 v, r = .inl a2 ∧ t = .inr v ∧ mq_1 (mm_L (fun s M => mf_86_b2 win s M) a2 M5) (fun u M3 => mq_S M3 N5 ∧ M3.1 1 4 = N5.1 84 13 ∧ mq_rem M3 < mq_rem M))) := by
                intro M4 N4 len q1 q2 q3 q4 q5 q6
                have kk : mq_K [(1, some 2), (1, some 5), (1, some 6), (3, some 1), (3, some 3), (3, some 4), (3, some 5), (4, none)] M4 (mm_B (mf_88 M4) (fun r4 M5 => if win < r4 then (mf_86_j85 win k len r4 1 M5) else (mf_86_j85 win k len r4 0 M5))) := mq_K_B (mq_K_call mk_88 mq_kp_refl rfl) (fun _ _ h => mq_K_ite (fun _ => mq_K_call mk_86_j85 h rfl) (fun _ => mq_K_call mk_86_j85 h rfl))
                refine mq_2_By (mq_2_K (mq_dist (vv := 0) q1 q2 q3 q5 q6 hw) kk mk_209) ?_ ?_
                · rintro r M5 _ N5 ⟨⟨rfl, r1, r2, r3⟩, k5, k6⟩
                  have lim5 := mq_S_lim r1
                  exact mq_2_ret (.inl ⟨_, _, rfl, rfl, ⟨rfl, by omega, by omega, r1, r2, mq_tabs_kp q3 k5 k6 rfl rfl rfl rfl, by omega⟩, by omega⟩)
                · rintro M5 b N5 ⟨hx, _, _⟩
                  exact mq_1_ret (.inl ⟨_, rfl, hx⟩)
              unfold mf_87
              have z0 : ∀ y : Int32, y + (0 : Int64).toInt32 = y := fun y => Int32.add_zero y
              by_cases c4 : v = 285
              · rw [if_pos c4, mq_Bs]
                have e265 : ¬ v < 265 := by rw [c4]; decide
                rw [if_neg e265, if_pos c4]
                unfold mf_208_j114 mf_208_j158
                rw [if_neg e265, if_pos c4, mq_num0, mq_Bs, z0]
                exact fin hS3 hf3 hT3 (Int.le_refl _) (by decide) (by decide)
              · rw [if_neg c4]
                have c4' : s ≠ 285 := fun q => c4 (Int32.toInt_inj.mp (by rw [s3, q]; rfl))
                by_cases c5 : v < 265
                · rw [if_pos c5, if_pos c5, mq_Bs]
                  unfold mf_208_j114 mf_208_j158
                  rw [if_pos c5, mq_num0, mq_Bs, z0]
                  rw [Int32.lt_iff_toInt_lt] at c5
                  simp only [Int32.reduceToInt] at c5
                  have e1 : (v - 254).toInt = v.toInt - 254 := by rw [mi_sub]; simp only [Int32.reduceToInt]; omega
                  exact fin hS3 hf3 hT3 (Int.le_refl _) (by omega) (by omega)
                · rw [if_neg c5, if_neg c5, if_neg c4]
                  unfold mf_208_j114 mf_208_j158
                  rw [if_neg c5, if_neg c4, mq_Ba]
                  rw [Int32.lt_iff_toInt_lt] at c5
                  simp only [Int32.reduceToInt] at c5
                  have ev := mi_ofk s3
                  obtain ⟨a1, a2, a3, a4⟩ := mi_ll ⟨s - 265, by omega⟩
                  dsimp only at a1 a2 a3 a4
                  rw [show s - 265 + 265 = s from by omega, ← ev] at a1 a2 a3 a4
                  refine mq_2_B (mq_2_K (mq_bits hS3 hf3 a1 (by omega)) mk_46 mk_198) ?_ ?_
                  · rintro x M4 b N4 ⟨⟨rfl, x1, hS4, hf4, hr4⟩, k5, k6⟩
                    rw [mq_Bs]
                    have x2 : mq_n x < 32 := Nat.lt_of_lt_of_le x1 (Nat.le_trans (Nat.pow_le_pow_right (by decide) (show _ ≤ 5 from by omega)) (by decide))
                    have x3 : x.toInt32.toInt = mq_n x := mi_64to32 (by omega)
                    have e1 : ((3 : Int32) + mm_shl (4 + mm_rem (v - 265) 4) ((v - 261) / 4) + x.toInt32).toInt = ((3 : Int32) + mm_shl (4 + mm_rem (v - 265) 4) ((v - 261) / 4)).toInt + mq_n x := by rw [mi_add, x3]; omega
                    exact fin hS4 hf4 (mq_tabs_kp hT3 k5 k6 rfl rfl rfl rfl) (by omega) (by omega) (by omega)
                  · rintro M4 b N4 ⟨hx, _, _⟩
                    exact mq_1_B (mq_xd hx (fun z => md_209 z)) (fun _ _ hx => mq_1_ret (.inl ⟨_, rfl, hx⟩))
      · rintro M3 b N3 ⟨hx, _, _⟩
        rw [if_neg (by rw [hx.2.2.2.1]; decide)]
        exact mq_1_ret (.inr ⟨_, rfl, hx⟩)
    · intro M2 b N2 hx
      exact mq_xd hx (fun z => md_208_L2 z mq_ob_refl)
    · have := mq_S_lim hS
      simp only [Int32.reduceToInt]
      omega
  · rintro r M2 t N2 q
    rcases r with r | r <;> rcases t with t | t <;> exact mq_2_ret q
  · rintro M2 t N2 q
    rcases t with t | t <;> exact mq_1_ret q
