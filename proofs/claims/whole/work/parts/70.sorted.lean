/-! FORM 9: blocks, whole -/
theorem md_226 {A N : mm_M} (hz : mq_Z A) (g : mq_ob A N) : mq_D A (mf_226 N) := by
  unfold mf_226
  refine mq_d_B ?_ (fun _ _ g => mq_d_B (md_226_L23 hz g) (fun _ _ g => mq_d_ret g))
  unfold mf_226_L2
  refine mq_d_Lc (I := fun (s : Int32) => 0 ≤ s.toInt) (m := fun (s : Int32) => (6 - s.toInt).toNat) ?_ (by decide) g
  rintro k N h g
  unfold mf_226_b2
  refine mq_1_ite (fun c => ?_) (fun c => mq_1_ret ⟨.inr ⟨_, rfl⟩, g⟩)
  rw [Int32.lt_iff_toInt_lt] at c
  simp only [Int32.reduceToInt] at c
  have e1 : (k + 1).toInt = k.toInt + 1 := by rw [mi_add]; simp only [Int32.reduceToInt]; omega
  rw [if_pos (mq_inr h (by omega))]
  exact mq_1_ret ⟨.inl ⟨_, rfl, by omega, by omega⟩, mq_ob_pi g rfl⟩
theorem md_224_j125 {A N : mm_M} {a b c : Int32} (hz : mq_Z A) (g : mq_ob A N) : mq_D A (mf_224_j125 a b c N) := by
  unfold mf_224_j125
  exact mq_d_B (md_226 hz g) (fun _ _ g => mq_d_B (md_224_L132 hz g) (fun _ _ g => md_224_j163 hz g))
theorem md_224_j96 {A N : mm_M} {a b c : Int32} (hz : mq_Z A) (g : mq_ob A N) : mq_D A (mf_224_j96 a b c N) := by
  unfold mf_224_j96
  exact mq_d_B (mq_d_c hz g (fun z => md_198 z)) (fun _ _ g => mq_d_w hz g (md_224_j125 hz (mq_ob_pi g rfl)))
theorem md_224_j41 {A N : mm_M} {a : Int32} (hz : mq_Z A) (g : mq_ob A N) : mq_D A (mf_224_j41 a N) := by
  unfold mf_224_j41
  exact mq_d_B (mq_d_c hz g (fun z => md_198 z)) (fun _ _ g => mq_d_B (mq_d_c hz g (fun z => md_225 z)) (fun _ _ g => mq_d_B (mq_d_c hz g (fun z => md_198 z)) (fun _ _ g => mq_d_w hz g (md_224_j96 hz (mq_ob_pi g rfl)))))
theorem mq_rdblock {M N : mm_M} {crc : Int32} {α : Type} {fG : mm_M → mm_O α} {R : α → mm_M → Int32 → mm_M → Prop} (hS : mq_S M N) (hf : M.1 1 4 = N.1 84 13) (hs : ∀ M2 N2 o, mq_S M2 N2 → M2.1 1 4 = N2.1 84 13 → mq_rem M2 < mq_rem M → M2.1 42 10 = o → 0 ≤ o.toInt → o.toInt < (M2.1 42 12).toInt → mq_la M2 N2 → mq_2 mq_XE (fG M2) (mf_224_j189 crc o N2) R) : mq_2 mq_XE (mm_B (mf_138 M) (fun _ M4 => fG M4)) (mm_B (mf_198 1 N) (fun r3 M4 => if r3 = (1 : Int64) then (mm_B (mf_190 M4) (fun _ M5 => mf_224_j41 crc M5)) else (mf_224_j41 crc M4))) R := by
  unfold mf_138
  rw [mq_Ba]
  refine mq_2_B (mq_2_K (mq_bit1 hS hf) mk_45 mk_198) ?_ ?_
  · rintro v M2 b N2 ⟨⟨hvb, hS2, hf2, hr2⟩, k1, k2⟩
    unfold mf_138_j15
    rcases hvb with ⟨rfl, rfl⟩ | ⟨rfl, rfl⟩
    · rw [if_pos rfl, if_neg (show ¬ (0 : Int64) = 1 from by decide), mq_27, mq_Bs, mq_Ba]
      unfold mf_224_j41
      refine mq_2_B (mq_2_K (mq_bits hS2 hf2 (n := 24) (by decide) (by decide)) mk_46 mk_198) ?_ ?_
      · rintro og M3 b N3 ⟨⟨rfl, o1, hS3, hf3, hr3⟩, k3, k4⟩
        simp only [Int32.reduceToInt] at hr3
        have o2 : mq_n og < 16777216 := o1
        have o3 : og.toInt32.toInt = mq_n og := mi_64to32 (by omega)
        generalize og.toInt32 = o at o3
        have kM : mq_kp [(42, some 10)] M3 (mm_pi M3 42 10 o) := mq_kp_pi mq_kp_refl rfl
        obtain ⟨hS3', hr3', g1, _⟩ := mq_S_kp (w2 := []) hS3 kM (mq_kp_refl (M := N3)) rfl rfl
        rw [mq_Ba]
        refine mq_2_B (mq_2_K (mq_occ hS3' (by rw [g1]; exact hf3)) mk_139 mk_225) ?_ ?_
        · rintro _ M4 _ N4 ⟨⟨hS4, hf4, hr4, hfr4, oc1⟩, k5, k6⟩
          have e10 : M4.1 42 10 = o := by rw [(k5 42 10 rfl).1, mq_ps]
          rw [mq_Ba]
          refine mq_2_B (mq_2_K (mq_bits hS4 hf4 (n := 3) (by decide) (by decide)) mk_46 mk_198) ?_ ?_
          · rintro nb M5 b N5 ⟨⟨rfl, n1, hS5, hf5, hr5⟩, k7, k8⟩
            simp only [Int32.reduceToInt] at hr5
            have n2 : mq_n nb < 8 := n1
            have n3 : nb.toInt32.toInt = mq_n nb := mi_64to32 (by omega)
            generalize nb.toInt32 = n at n3
            rw [if_pos hS5.2.2.2.2.1]
            have hfr5 := mq_fr_kp hfr4 k7 k8 rfl rfl rfl rfl
            have eoc : N4.1 84 20 = M5.1 42 9 := by rw [← hfr4.1, (k7 42 9 rfl).1]
            have kN : mq_kp [(84, some 29)] N5 (mm_pi N5 84 29 n) := mq_kp_pi mq_kp_refl rfl
            obtain ⟨hS5', hr5', _, g2⟩ := mq_S_kp (w := []) hS5 (mq_kp_refl (M := M5)) kN rfl rfl
            rw [eoc]
            have bad : mq_2 mq_XE (mm_B (mf_138_j62 n 1 M5) (fun _ M4 => fG M4)) (mf_224_j92 crc o (M5.1 42 9) (mm_pi N5 84 29 n)) R := by
              unfold mf_138_j62 mf_224_j92
              rw [mq_27t, mq_Bt, mq_Bt, mq_190, mq_Bs]
              obtain ⟨x, N6, e, hx⟩ := mq_xd (mq_X_th (mq_S_bad hS5')) (fun z => md_224_j96 (a := crc) (b := o) (c := M5.1 42 9) z mq_ob_refl)
              rw [e]
              exact mq_2_thr hx
            by_cases c1 : n < 2
            · rw [if_pos c1, if_pos c1]; exact bad
            · rw [if_neg c1, if_neg c1]
              by_cases c2 : 6 < n
              · rw [if_pos c2, if_pos c2]; exact bad
              · rw [if_neg c2, if_neg c2]
                rw [Int32.lt_iff_toInt_lt] at c1 c2
                simp only [Int32.reduceToInt] at c1 c2
                unfold mf_138_j62 mf_224_j96 mf_140
                rw [mq_27, mq_Bs, mq_Ba, mq_Ba]
                refine mq_2_B (mq_2_K (mq_bits hS5' (N := mm_pi N5 84 29 n) (by rw [g2]; exact hf5) (n := 15) (by decide) (by decide)) mk_46 mk_198) ?_ ?_
                · rintro cb M6 b N6 ⟨⟨rfl, t1, hS6, hf6, hr6⟩, k9, k10⟩
                  simp only [Int32.reduceToInt] at hr6
                  have t2 : mq_n cb < 32768 := t1
                  have t3 : cb.toInt32.toInt = mq_n cb := mi_64to32 (by omega)
                  generalize cb.toInt32 = cnt at t3
                  rw [if_pos hS6.2.2.2.2.1]
                  have kM6 : mq_kp [(42, some 7)] M6 (mm_pi M6 42 7 cnt) := mq_kp_pi mq_kp_refl rfl
                  have kN6 : mq_kp [(84, some 30)] N6 (mm_pi N6 84 30 cnt) := mq_kp_pi mq_kp_refl rfl
                  obtain ⟨hS6', hr6', g3, g4⟩ := mq_S_kp hS6 kM6 kN6 rfl rfl
                  by_cases c3 : mq_n cb = 0
                  · rw [if_pos (show cnt < 1 from by rw [Int32.lt_iff_toInt_lt]; simp only [Int32.reduceToInt]; omega), if_pos (show cnt = 0 from Int32.toInt_inj.mp (by rw [t3, c3]; rfl))]
                    unfold mf_140_j27
                    rw [mq_27t, mq_Bt, mq_Bt, mq_190, mq_Bs]
                    obtain ⟨x, N7, e, hx⟩ := mq_xd (mq_X_th (mq_S_bad hS6')) (fun z => md_224_j125 (a := crc) (b := o) (c := M5.1 42 9) z mq_ob_refl)
                    rw [e]
                    exact mq_2_thr hx
                  · rw [if_neg (show ¬ cnt < 1 from by rw [Int32.lt_iff_toInt_lt]; simp only [Int32.reduceToInt]; omega), if_neg (show ¬ cnt = 0 from fun q => c3 (by rw [q] at t3; simp only [Int32.reduceToInt] at t3; omega))]
                    have h29 : (mm_pi N6 84 30 cnt).1 84 29 = n := by rw [mq_pj (by decide), (k10 84 29 rfl).1, mq_ps]
                    unfold mf_224_j125
                    refine mq_2_B (mq_2_K (mq_sel (n := n) (cnt := cnt) hS6' (by rw [g3, g4]; exact hf6) (by omega) (by omega) h29 mq_ps mq_ps (by omega) (by omega)) mk_140_j27 mk_226) ?_ ?_
                    · rintro _ M7 _ N7 ⟨⟨hS7, hf7, hr7, hse7⟩, k11, k12⟩
                      have o7 : M7.1 42 9 = M5.1 42 9 := by rw [(k11 42 9 rfl).1, mq_pj (by decide), (k9 42 9 rfl).1]
                      have n7 : N7.1 84 29 = n := by rw [(k12 84 29 rfl).1]; exact h29
                      have oc5 : 1 ≤ (M5.1 42 9).toInt := by rw [(k7 42 9 rfl).1]; exact oc1
                      have oc6 : (M5.1 42 9).toInt ≤ 256 := hfr5.2.2.1
                      rw [mq_Ba]
                      refine mq_2_B (mq_2_K (mq_tables (nt := mq_n nb) (nn := (M5.1 42 9).toInt.toNat + 2) (n := n) (oc := M5.1 42 9) (v1 := crc) (v2 := o) hS7 hf7 n3 (by omega) o7 oc5 oc6 (by omega) n7) mk_138_L72 mk_224_L132) ?_ ?_
                      · rintro _ M8 _ N8 ⟨⟨hS8, hf8, hr8, hT8⟩, k13, k14⟩
                        have fr8 : mq_fr M8 N8 := by
                          have a1 : M8.1 42 9 = M5.1 42 9 := by rw [(k13 42 9 rfl).1]; exact o7
                          have a2 : N8.1 84 20 = N5.1 84 20 := by rw [(k14 84 20 rfl).1, (k12 84 20 rfl).1, mq_pj (by decide), (k10 84 20 rfl).1, mq_pj (by decide)]
                          have a3 : ∀ j, M8.1 46 j = M5.1 46 j := fun j => by rw [(k13 46 j rfl).1, (k11 46 j rfl).1, mq_pn (by decide), (k9 46 j rfl).1]
                          have a4 : ∀ j, N8.1 94 j = N5.1 94 j := fun j => by rw [(k14 94 j rfl).1, (k12 94 j rfl).1, mq_pn (by decide), (k10 94 j rfl).1, mq_pn (by decide)]
                          unfold mq_fr
                          rw [a1, a2]
                          exact ⟨hfr5.1, hfr5.2.1, hfr5.2.2.1, fun j hj => by rw [a3, a4]; exact hfr5.2.2.2 j hj⟩
                        have e7 : M8.1 42 7 = cnt := by rw [(k13 42 7 rfl).1, (k11 42 7 rfl).1, mq_ps]
                        have e30 : N8.1 84 30 = cnt := by rw [(k14 84 30 rfl).1, (k12 84 30 rfl).1, mq_ps]
                        have lc8 : mq_lc (mq_n nb) ((M5.1 42 9).toInt.toNat + 2) cnt (M5.1 42 9) M8 N8 := by
                          refine ⟨e7, e30, by rw [(k13 42 9 rfl).1]; exact o7, ?_, hT8⟩
                          rw [← mi_ofk n3]
                          intro i hi
                          rw [(k14 93 i rfl).1, (k13 45 i rfl).1]
                          exact hse7 i hi
                        have ee : N5.1 84 20 = M5.1 42 9 := hfr5.1.symm
                        unfold mf_138_j93 mf_224_j163
                        rw [mq_Ba]
                        refine mq_2_B (mq_2_K (mq_sletters (nt := mq_n nb) (nn := (M5.1 42 9).toInt.toNat + 2) (cnt := cnt) (oc := M5.1 42 9) (n5 := M5.1 42 9 + 2) hS8 hf8 lc8 fr8 (by omega) (by omega) oc5 oc6 rfl (by omega) (by omega) (by omega)) mk_143 mk_228) ?_ ?_
                        · rintro _ M9 _ N9 ⟨⟨hS9, hf9, hr9, hla9⟩, k15, k16⟩
                          have o9 : M9.1 42 10 = o := by rw [(k15 42 10 rfl).1, (k13 42 10 rfl).1, (k11 42 10 rfl).1, mq_pj (by decide), (k9 42 10 rfl).1, (k7 42 10 rfl).1]; exact e10
                          rw [if_pos hS9.2.2.2.2.1, o9, ← hla9.1]
                          unfold mf_138_j113
                          by_cases d : o < M9.1 42 12
                          · rw [if_pos d, if_pos d, mq_27, mq_Bs, mq_Bs]
                            rw [Int32.lt_iff_toInt_lt] at d
                            have hq : mq_rem (mm_pi M6 42 7 cnt) = mq_rem M6 := hr6'
                            exact hs M9 N9 o hS9 hf9 (by omega) o9 (by omega) d hla9
                          · rw [if_neg d, if_neg d, mq_27t, mq_Bt, mq_Bt, mq_190, mq_Bs]
                            obtain ⟨x, Na, e, hx⟩ := mq_xd (mq_X_th (mq_S_bad hS9)) (fun z => md_224_j189 (v1 := crc) (v2 := o) z mq_ob_refl)
                            rw [e]
                            exact mq_2_thr hx
                        · rintro M9 b N9 ⟨hx, _, _⟩
                          rw [if_neg (by rw [hx.2.2.2.1]; decide)]
                          exact mq_xd hx (fun z => md_224_j189 z mq_ob_refl)
                      · rintro M8 b N8 ⟨hx, _, _⟩
                        exact mq_xd hx (fun z => md_224_j163 z mq_ob_refl)
                    · rintro M7 b N7 ⟨hx, _, _⟩
                      exact mq_1_B (mq_xd hx (fun z => md_224_L132 z mq_ob_refl)) (fun _ _ hx => mq_xd hx (fun z => md_224_j163 z mq_ob_refl))
                · rintro M6 b N6 ⟨hx, _, _⟩
                  rw [if_neg (by rw [hx.2.2.2.1]; decide)]
                  exact mq_xd (mq_X_pi hx rfl) (fun z => md_224_j125 z mq_ob_refl)
          · rintro M5 b N5 ⟨hx, _, _⟩
            rw [if_neg (by rw [hx.2.2.2.1]; decide)]
            exact mq_xd (mq_X_pi hx rfl) (fun z => md_224_j96 z mq_ob_refl)
        · rintro M4 b N4 ⟨hx, _, _⟩
          refine mq_1_B (mq_xd hx (fun z => md_198 z)) (fun _ N5 hx => ?_)
          rw [if_neg (by rw [hx.2.2.2.1]; decide)]
          exact mq_xd (mq_X_pi hx rfl) (fun z => md_224_j96 z mq_ob_refl)
      · rintro M3 b N3 ⟨hx, _, _⟩
        refine mq_1_B (mq_xd hx (fun z => md_225 z)) (fun _ N4 hx => ?_)
        refine mq_1_B (mq_xd hx (fun z => md_198 z)) (fun _ N5 hx => ?_)
        rw [if_neg (by rw [hx.2.2.2.1]; decide)]
        exact mq_xd (mq_X_pi hx rfl) (fun z => md_224_j96 z mq_ob_refl)
    · rw [if_neg (show ¬ (1 : Int32) = 0 from by decide), if_pos rfl, mq_27t, mq_Bt, mq_Bt, mq_190, mq_Bs]
      obtain ⟨x, N3, e, hx⟩ := mq_xd (mq_X_th (mq_S_bad hS2)) (fun z => md_224_j41 (a := crc) z mq_ob_refl)
      rw [e]
      exact mq_2_thr hx
  · rintro M2 b N2 ⟨hx, _, _⟩
    refine mq_1_ite (fun _ => ?_) (fun _ => mq_xd hx (fun z => md_224_j41 z mq_ob_refl))
    exact mq_1_B (mq_xd hx (fun z => md_190 z)) (fun _ _ hx => mq_xd hx (fun z => md_224_j41 z mq_ob_refl))
