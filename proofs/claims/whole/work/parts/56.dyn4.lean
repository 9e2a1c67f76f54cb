/-! BLOCKS: codes of its own, read whole -/
theorem mq_dyn {M N : mm_M} (hS : mq_S M N) (hf : M.1 1 4 = N.1 84 13) (hr : mq_RW N) : mq_2 mq_XE (mm_B (mf_83 M) (fun _ M4 => mm_B (mf_84 M4) (fun _ M5 => mf_85 M5))) (mf_206 N) (fun _ M2 _ N2 => mq_S M2 N2 ∧ M2.1 1 4 = N2.1 84 13 ∧ mq_rem M2 ≤ mq_rem M ∧ ∃ nl nd f0 f1, mq_tabs nl nd f0 f1 M2 N2) := by
  unfold mf_83 mf_206
  rw [mq_Ba]
  refine mq_2_B (mq_2_K (mq_bits hS hf (n := 5) (by decide) (by decide)) mk_46 mk_198) ?_ ?_
  · rintro v M2 b N2 ⟨⟨rfl, v1, hS2, hf2, hr2⟩, k1, k2⟩
    have hR2 := mq_RW_kp hr k2 rfl
    have v2 : mq_n v < 32 := v1
    have v3 : v.toInt32.toInt = mq_n v := mi_64to32 (by omega)
    simp only [Int32.reduceToInt] at hr2
    have el : ((257 : Int32) + v.toInt32).toInt = ((257 + mq_n v : Nat) : Int) := by rw [mi_add, v3]; simp only [Int32.reduceToInt]; omega
    generalize hL : (257 : Int32) + v.toInt32 = L at el
    rw [if_pos hS2.2.2.2.2.1]
    have hS2' : mq_S (mm_pi M2 16 8 L) (mm_pi N2 84 20 L) := (mq_S_kp (w := [(16, none)]) (w2 := [(84, some 20)]) hS2 (mq_kp_pi mq_kp_refl rfl) (mq_kp_pi mq_kp_refl rfl) rfl rfl).1
    have hR2' : mq_RW (mm_pi N2 84 20 L) := fun i hi => by rw [mq_pn (by decide)]; exact hR2 i hi
    unfold mf_83_j32
    by_cases c : 286 < L
    · rw [if_pos c, if_pos c, mq_27t, mq_Bt, mq_Bt, mq_190, mq_Bs]
      obtain ⟨t, N3, e, hx⟩ := mq_xd (mq_X_th (mq_S_bad hS2')) (fun z => md_206_j35 z mq_ob_refl (fun i hi => by rw [mq_pn (by decide)]; exact hR2' i hi))
      rw [e]
      exact mq_2_thr hx
    · rw [if_neg c, if_neg c, mq_27, mq_Bs]
      rw [Int32.lt_iff_toInt_lt] at c
      simp only [Int32.reduceToInt] at c
      unfold mf_206_j35
      rw [mq_Ba]
      refine mq_2_B (mq_2_K (mq_bits hS2' (M := mm_pi M2 16 8 L) (N := mm_pi N2 84 20 L) hf2 (n := 5) (by decide) (by decide)) mk_46 mk_198) ?_ ?_
      · rintro w M3 b N3 ⟨⟨rfl, w1, hS3, hf3, hr3⟩, k3, k4⟩
        have hR3 := mq_RW_kp hR2' k4 rfl
        have w2 : mq_n w < 32 := w1
        have w3 : w.toInt32.toInt = mq_n w := mi_64to32 (by omega)
        simp only [Int32.reduceToInt] at hr3
        have hr3' : mq_rem M3 + 5 = mq_rem M2 := hr3
        have ed : ((1 : Int32) + w.toInt32).toInt = ((1 + mq_n w : Nat) : Int) := by rw [mi_add, w3]; simp only [Int32.reduceToInt]; omega
        generalize hD : (1 : Int32) + w.toInt32 = D at ed
        rw [if_pos hS3.2.2.2.2.1]
        have hS3' : mq_S (mm_pi M3 16 9 D) (mm_pi N3 84 21 D) := (mq_S_kp (w := [(16, none)]) (w2 := [(84, some 21)]) hS3 (mq_kp_pi mq_kp_refl rfl) (mq_kp_pi mq_kp_refl rfl) rfl rfl).1
        have hR3' : mq_RW (mm_pi N3 84 21 D) := fun i hi => by rw [mq_pn (by decide)]; exact hR3 i hi
        unfold mf_83_j64
        by_cases d : 30 < D
        · rw [if_pos d, if_pos d, mq_27t, mq_Bt, mq_Bt, mq_190, mq_Bs]
          obtain ⟨t, N4, e, hx⟩ := mq_xd (mq_X_th (mq_S_bad hS3')) (fun z => md_206_j67 z mq_ob_refl (fun i hi => by rw [mq_pn (by decide)]; exact hR3' i hi))
          rw [e]
          exact mq_2_thr hx
        · rw [if_neg d, if_neg d, mq_27, mq_Bs]
          rw [Int32.lt_iff_toInt_lt] at d
          simp only [Int32.reduceToInt] at d
          unfold mf_206_j67
          rw [mq_Ba]
          refine mq_2_B (mq_2_K (mq_bits hS3' (M := mm_pi M3 16 9 D) (N := mm_pi N3 84 21 D) hf3 (n := 4) (by decide) (by decide)) mk_46 mk_198) ?_ ?_
          · rintro x M4 b N4 ⟨⟨rfl, x1, hS4, hf4, hr4⟩, k5, k6⟩
            have hR4 := mq_RW_kp hR3' k6 rfl
            have x2 : mq_n x < 16 := x1
            have x3 : x.toInt32.toInt = mq_n x := mi_64to32 (by omega)
            simp only [Int32.reduceToInt] at hr4
            have hr4' : mq_rem M4 + 4 = mq_rem M3 := hr4
            have en : ((4 : Int32) + x.toInt32).toInt = 4 + mq_n x := by rw [mi_add, x3]; simp only [Int32.reduceToInt]; omega
            have L4 : M4.1 16 8 = L := by rw [(k5 16 8 rfl).1, mq_pj (by decide), (k3 16 8 rfl).1, mq_ps]
            have D4 : M4.1 16 9 = D := by rw [(k5 16 9 rfl).1, mq_ps]
            have A4 : N4.1 84 20 = L := by rw [(k6 84 20 rfl).1, mq_pj (by decide), (k4 84 20 rfl).1, mq_ps]
            have B4 : N4.1 84 21 = D := by rw [(k6 84 21 rfl).1, mq_ps]
            rw [mq_Ba]
            refine mq_2_Bl (mq_fill (by omega)) ?_
            rintro _ M5 ⟨hz5, k7⟩
            obtain ⟨hS5, hr5, f5, _⟩ := mq_S_kp (w2 := []) hS4 k7 (mq_kp_refl (M := N4)) rfl rfl
            rw [mq_Ba]
            refine mq_2_B (mq_2_K (mq_hdrL (M := M5) (N := N4) hS5 (by rw [f5]; exact hf4) hR4 (by omega) (by omega) hz5) mk_83_L92 mk_206_L78) ?_ ?_
            · rintro _ M6 _ N6 ⟨⟨hS6, hf6, hr6, hv6⟩, k8, k9⟩
              generalize hff : (fun s => (M6.1 28 s).toInt.toNat) = f
              have vf : ∀ s, s < 19 → (M6.1 28 s).toInt = f s ∧ f s ≤ 20 := by
                intro s hs
                obtain ⟨_, q2, q3⟩ := hv6 s hs
                rw [← hff]; dsimp only; omega
              have LR : ∀ s, s < 19 → (N6.1 87 (300 * 2 + s)).toInt = f s := by
                intro s hs
                rw [show 300 * 2 + s = 600 + s from rfl, ← (hv6 s hs).1]; exact (vf s hs).1
              have L6 : M6.1 16 8 = L := by rw [(k8 16 8 rfl).1, (k7 16 8 rfl).1]; exact L4
              have D6 : M6.1 16 9 = D := by rw [(k8 16 9 rfl).1, (k7 16 9 rfl).1]; exact D4
              have A6 : N6.1 84 20 = L := by rw [(k9 84 20 rfl).1]; exact A4
              have B6 : N6.1 84 21 = D := by rw [(k9 84 21 rfl).1]; exact B4
              unfold mf_83_j133 mf_206_j120
              rw [if_pos hS6.2.2.2.2.1, mq_Ba]
              refine mq_2_Bl (mq_1_K (mq_make (p := 27) (cap := 19) (n := 19) (f := f) (by omega) (by omega) (by omega) rfl (fun s hs => (vf s hs).1) (fun s hs => (vf s hs).2)) mk_99) ?_
              rintro _ M7 ⟨hC7, k10⟩
              obtain ⟨ra, ea, ha⟩ := mq_full (cap := 19) hC7
              obtain ⟨rc, ec, hc⟩ := mq_fit (t := 2) (n := 19) (f := f) (tt := 2) (nn := 19) (lk := 0) (N := N6) (by omega) (by omega) rfl rfl LR (fun s hs => (vf s hs).2)
              rw [ea, mq_Bs, ec, mq_Bs]
              obtain ⟨hS7, hr7, f7, _⟩ := mq_S_kp (w2 := []) hS6 k10 (mq_kp_refl (M := N6)) rfl rfl
              unfold mf_83_j159
              rcases ha with ⟨rfl, ha⟩ | ⟨rfl, ha⟩
              · rcases hc with ⟨rfl, hc⟩ | ⟨rfl, hc⟩
                · rw [if_neg (show ¬ (1 : Int32) = 0 from by decide), if_neg (show ¬ (1 : Int32) = 0 from by decide), mq_27, mq_Bs, mq_Bs]
                  unfold mf_206_j142 mf_84
                  refine mq_2_Br (mq_1_K (mq_assign (t := 2) (n := 19) (f := f) (by omega) (by omega) rfl rfl LR (fun s hs => (vf s hs).2)) mk_199) ?_
                  rintro _ N8 ⟨⟨hT8, _⟩, k11⟩
                  obtain ⟨hS8, hr8, _, f8⟩ := mq_S_kp (w := []) hS7 (mq_kp_refl (M := M7)) k11 rfl rfl
                  have L8 : M7.1 16 8 = L := by rw [(k10 16 8 rfl).1]; exact L6
                  have D8 : M7.1 16 9 = D := by rw [(k10 16 9 rfl).1]; exact D6
                  have A8 : N8.1 84 20 = L := by rw [(k11 84 20 rfl).1]; exact A6
                  have B8 : N8.1 84 21 = D := by rw [(k11 84 21 rfl).1]; exact B6
                  have eLD : (L + D).toInt = L.toInt + D.toInt := by rw [mi_add]; omega
                  rw [L8, D8, A8, B8, mq_Ba]
                  unfold mf_207
                  rw [mq_Ba]
                  refine mq_2_B (mq_2_K (mq_row (f := f) (all := L + D) ⟨hS8, by rw [f7, f8]; exact hf6, hC7, hT8, by decide, fun j hj => by simp only [Int32.reduceToInt] at hj; omega⟩ (by omega) (by omega) (fun s hs => (vf s hs).2)) mk_84_L12 mk_207_L2) ?_ ?_
                  · rintro _ M9 _ N9 ⟨⟨⟨hS9, hf9, _, _, _, hv9⟩, hr9⟩, k12, k13⟩
                    rw [mq_Bs, mq_Bs, if_pos hS9.2.2.2.2.1]
                    refine mq_2_mono (mq_set (nl := 257 + mq_n v) (nd := 1 + mq_n w) hS9 hf9 ?_ ?_ ?_ ?_ (by omega) (by omega) (by omega) (by omega) ?_) ?_ (fun _ _ _ q => q)
                    · rw [(k12 16 8 rfl).1, L8]; exact el
                    · rw [(k12 16 9 rfl).1, D8]; exact ed
                    · rw [(k13 84 20 rfl).1, A8, (k12 16 8 rfl).1, L8]
                    · rw [(k13 84 21 rfl).1, B8, (k12 16 9 rfl).1, D8]
                    · intro j hj; exact hv9 j (by omega)
                    · rintro _ Ma _ Na ⟨q1, q2, q3, f0, f1, q4⟩
                      exact ⟨q1, q2, by omega, _, _, f0, f1, q4⟩
                  · rintro M9 b N9 ⟨hx, _, _⟩
                    rw [mq_Bs, if_neg (by rw [hx.2.2.2.1]; decide)]
                    exact mq_1_ret hx
                · exact absurd (ha.elim .inl (fun q => .inr (.inl q))) hc
              · rcases hc with ⟨rfl, hc⟩ | ⟨rfl, hc⟩
                · exfalso
                  rcases hc with q | q | q
                  · exact ha (.inl q)
                  · exact ha (.inr q)
                  · exact q.1 rfl
                · rw [if_pos (show (0 : Int32) = 0 from rfl), if_pos (show (0 : Int32) = 0 from rfl), mq_27t, mq_Bt, mq_Bt, mq_190, mq_Bs]
                  obtain ⟨t, N8, e, hx⟩ := mq_xd (mq_X_th (mq_S_bad hS7)) (fun z => md_206_j142 z mq_ob_refl)
                  rw [e]
                  exact mq_2_thr hx
            · rintro M6 b N6 ⟨hx, _, _⟩
              exact mq_xd hx (fun z => md_206_j120 z mq_ob_refl)
          · rintro M4 b N4 ⟨hx, _, k6⟩
            exact mq_1_B (mq_1_mono (md_206_L78 (mq_X_Z hx) mq_ob_refl (mq_RW_kp hR3' k6 rfl) (by decide)) (fun _ _ g => mq_X_ob hx g)) (fun _ _ hx => mq_xd hx (fun z => md_206_j120 z mq_ob_refl))
      · rintro M3 b N3 ⟨hx, _, k4⟩
        rw [if_neg (by rw [hx.2.2.2.1]; decide)]
        exact mq_xd (mq_X_pi hx rfl) (fun z => md_206_j67 z mq_ob_refl (fun i hi => by rw [mq_pn (by decide)]; exact mq_RW_kp hR2' k4 rfl i hi))
  · rintro M2 b N2 ⟨hx, _, k2⟩
    rw [if_neg (by rw [hx.2.2.2.1]; decide)]
    exact mq_xd (mq_X_pi hx rfl) (fun z => md_206_j35 z mq_ob_refl (fun i hi => by rw [mq_pn (by decide)]; exact mq_RW_kp hr k2 rfl i hi))
