/-! FORM 10: whole -/
theorem mq_158 {M : mm_M} : mq_1 (mf_158 M) (fun _ M2 => (∀ i, i < 14340 → M2.1 81 i = 1024) ∧ M2.2.1 80 4 = 4294967295 ∧ M2.1 80 9 = 0 ∧ M2.1 80 10 = 1 ∧ M2.1 80 11 = 1 ∧ M2.1 80 12 = 1 ∧ M2.1 80 13 = 1 ∧ mq_kp [(81, none), (80, some 4), (80, some 9), (80, some 10), (80, some 11), (80, some 12), (80, some 13)] M M2) := by
  unfold mf_158
  refine mq_1_B (mq_fill (by decide)) (fun _ M2 q => mq_1_ret ⟨?_, rfl, rfl, rfl, rfl, rfl, rfl, ?_⟩)
  · exact fun i hi => q.1 i hi
  · exact mq_kp_pi (mq_kp_pi (mq_kp_pi (mq_kp_pi (mq_kp_pi (mq_kp_pl (mq_kp_sub q.2 rfl) rfl) rfl) rfl) rfl) rfl) rfl
theorem mq_L164 {N : mm_M} {v : Int64} : mq_1 (mf_237_L164 v 0 N) (fun _ N2 => (∀ i, i < 14540 → N2.1 98 i = 1024) ∧ mq_kp [(98, none)] N N2) := by
  unfold mf_237_L164
  refine mq_1_L (I := fun (s : Int32) N2 => ∃ k : Nat, s.toInt = k ∧ k ≤ 14540 ∧ (∀ i, i < k → N2.1 98 i = 1024) ∧ mq_kp [(98, none)] N N2) (m := fun (s : Int32) _ => (14540 - s.toInt).toNat) ?_ ⟨0, rfl, by decide, fun i hi => by omega, mq_kp_refl⟩
  rintro s N2 ⟨k, hk, hk2, hv, kN⟩
  unfold mf_237_b164
  refine mq_1_ite (fun c => ?_) (fun c => ?_)
  · rw [Int32.lt_iff_toInt_lt, hk] at c
    simp only [Int32.reduceToInt] at c
    have e : (s + 1).toInt = ((k + 1 : Nat) : Int) := by rw [mi_add, hk]; simp only [Int32.reduceToInt]; omega
    have en : s.toNatClampNeg = k := by rw [mq_cl, hk]; rfl
    rw [if_pos (mq_inr (by omega) (by omega)), en]
    refine mq_1_ret (.inl ⟨_, rfl, ⟨k + 1, e, by omega, fun i hi => ?_, mq_kp_pi kN rfl⟩, by omega⟩)
    by_cases q : i = k
    · rw [q, mq_ps]
    · rw [mq_pj q]; exact hv i (by omega)
  · rw [Int32.lt_iff_toInt_lt, hk] at c
    simp only [Int32.reduceToInt] at c
    exact mq_1_ret (.inr ⟨_, rfl, fun i hi => hv i (by omega), kN⟩)
theorem mq_L196 {N : mm_M} {v : Int64} : mf_237_L196 v 0 N = some (.inl (), mm_pl (mm_pl (mm_pl (mm_pl N 99 0 1) 99 1 1) 99 2 1) 99 3 1) := by
  have s0 : ∀ M, mf_237_b196 v 0 M = some (.inl (.inl 1), mm_pl M 99 0 1) := fun M => rfl
  have s1 : ∀ M, mf_237_b196 v 1 M = some (.inl (.inl 2), mm_pl M 99 1 1) := fun M => rfl
  have s2 : ∀ M, mf_237_b196 v 2 M = some (.inl (.inl 3), mm_pl M 99 2 1) := fun M => rfl
  have s3 : ∀ M, mf_237_b196 v 3 M = some (.inl (.inl 4), mm_pl M 99 3 1) := fun M => rfl
  have s4 : ∀ M, mf_237_b196 v 4 M = some (.inl (.inr ()), M) := fun M => rfl
  unfold mf_237_L196
  rw [mm_L_eq, s0]
  show mm_L _ 1 _ = _
  rw [mm_L_eq, s1]
  show mm_L _ 2 _ = _
  rw [mm_L_eq, s2]
  show mm_L _ 3 _ = _
  rw [mm_L_eq, s3]
  show mm_L _ 4 _ = _
  rw [mm_L_eq, s4]
  rfl
theorem md_237_L98 {A N : mm_M} {a : Int32} {b : Int64} {s : Int32} (hz : mq_Z A) (g : mq_ob A N) : mq_D A (mf_237_L98 a b s N) := by
  unfold mf_237_L98
  refine mq_d_Lc (I := fun _ => True) (m := fun (s : Int32) => (4 - s.toInt).toNat) ?_ trivial g
  rintro k N _ g
  unfold mf_237_b98
  refine mq_1_ite (fun c => ?_) (fun c => mq_1_ret ⟨.inr ⟨_, rfl⟩, g⟩)
  rw [Int32.lt_iff_toInt_lt] at c
  simp only [Int32.reduceToInt] at c
  refine mq_1_B (mq_d_c hz g md_191) (fun a N2 g => mq_1_ret ⟨.inl ⟨_, rfl, trivial, ?_⟩, mq_ob_pl g⟩)
  have := mq_lo k
  rw [mi_add]; simp only [Int32.reduceToInt]; omega
theorem md_237_j78 {A N : mm_M} {a : Int32} {b : Int64} (hz : mq_Z A) (g : mq_ob A N) : mq_D A (mf_237_j78 a b N) := by
  unfold mf_237_j78
  exact mq_d_B (mq_d_c hz g (fun z => md_192 z)) (fun _ _ g => mq_d_B (md_237_L98 hz (mq_ob_pl (mq_ob_pl g))) (fun _ _ g => md_237_j127 hz g))
theorem md_237_j38 {A N : mm_M} {a : Int32} (hz : mq_Z A) (g : mq_ob A N) : mq_D A (mf_237_j38 a N) := by
  unfold mf_237_j38
  exact mq_d_B (mq_d_c hz g (fun z => md_193 z)) (fun _ _ g => mq_d_B (mq_d_c hz g (fun z => md_193 z)) (fun _ _ g => mq_d_w hz g (md_237_j78 hz g)))
theorem mq_chigh {M N : mm_M} {a : Int32} {b : Int64} (hW : mq_W M N) (h34 : N.2.1 84 34 = 0) : mq_2 mq_XE (mf_48 4 M) (mf_237_L98 a b 0 N) (fun v M2 _ N2 => N2.2.1 84 34 = v ∧ mq_W M2 N2 ∧ mq_kp mw_44 M M2 ∧ mq_kp [(84, some 5), (84, some 7), (84, some 34)] N N2) := by
  unfold mf_48
  refine mq_2_Bl' (P := fun v M2 _ N2 => N2.2.1 84 34 = v ∧ mq_W M2 N2 ∧ mq_kp mw_44 M M2 ∧ mq_kp [(84, some 5), (84, some 7), (84, some 34)] N N2) ?_ (fun a M2 b N2 q => ⟨_, rfl, q⟩)
  unfold mf_48_L5 mf_237_L98
  refine mq_2_L (I := fun (x : Int64 × Int32) M2 (s : Int32) N2 => x.2 = s ∧ N2.2.1 84 34 = x.1 ∧ 0 ≤ s.toInt ∧ mq_W M2 N2 ∧ mq_kp mw_44 M M2 ∧ mq_kp [(84, some 5), (84, some 7), (84, some 34)] N N2) (J := fun M (_ : Int32) N => mq_X M N) (m := fun (x : Int64 × Int32) _ => (4 - x.2.toInt).toNat) ?_ ?_ ⟨rfl, h34, by decide, hW, mq_kp_refl, mq_kp_refl⟩
  · rintro ⟨x, k⟩ M2 s N2 ⟨h1, h2, k0, w2, k1, k2⟩
    dsimp only at h1 h2
    subst h1
    unfold mf_48_b5 mf_237_b98
    dsimp only
    by_cases c : k < 4
    · rw [if_pos c, if_pos c]
      rw [Int32.lt_iff_toInt_lt] at c
      simp only [Int32.reduceToInt] at c
      have e : (k + 1).toInt = k.toInt + 1 := by rw [mi_add]; simp only [Int32.reduceToInt]; omega
      refine mq_2_B (mq_2_K (mq_next1 w2) mk_44 mk_191) ?_ ?_
      · rintro v M3 b N3 ⟨⟨rfl, v0, v1, w3, _⟩, k3, k4⟩
        refine mq_2_ret (.inl ⟨_, _, rfl, rfl, ⟨rfl, ?_, by omega, w3, mq_kp_trans k1 k3, mq_kp_pl (mq_kp_trans k2 (mq_kp_sub k4 rfl)) rfl⟩, by dsimp only; omega⟩)
        rw [mq_pls, h2]
      · rintro M3 b N3 ⟨hx, _, _⟩
        exact mq_1_ret (.inl ⟨_, rfl, hx⟩)
    · rw [if_neg c, if_neg c]
      exact mq_2_ret (.inr ⟨_, _, rfl, rfl, h2, w2, k1, k2⟩)
  · intro M2 s N2 hx
    exact mq_xd hx (fun z => md_237_L98 z mq_ob_refl)
theorem mi_head {v : Int32} (h0 : 0 ≤ v.toInt) (h1 : v.toInt ≤ 224) : ∃ a b c : Nat, (mm_rem v 9).toInt = a ∧ (mm_rem (v / 9) 5).toInt = b ∧ (v / 45).toInt = c ∧ c ≤ 4 ∧ (mm_rem v 9 + mm_rem (v / 9) 5).toInt = a + b := by
  have e1 : (mm_rem v 9).toInt = v.toInt % 9 := by rw [mi_rem h0 (by decide)]; rfl
  have e2 : (v / 9).toInt = v.toInt / 9 := by rw [mi_div h0 (by decide)]; rfl
  have e3 : (mm_rem (v / 9) 5).toInt = v.toInt / 9 % 5 := by rw [mi_rem (by omega) (by decide), e2]; rfl
  have e4 : (v / 45).toInt = v.toInt / 45 := by rw [mi_div h0 (by decide)]; rfl
  refine ⟨(v.toInt % 9).toNat, (v.toInt / 9 % 5).toNat, (v.toInt / 45).toNat, by omega, by omega, by omega, by omega, ?_⟩
  rw [mi_add, e1, e3]
  omega
theorem mq_chances {M N : mm_M} (h : mq_W M N) (hs0 : M.1 3 1 = 0) : mq_2 mq_XE (mf_159 M) (mf_237 N) (fun _ M2 _ N2 => mq_Q M2 N2) := by
  unfold mf_159 mf_237 mf_160
  rw [mq_Ba]
  refine mq_2_B (mq_2_K (mq_next1 h) mk_44 mk_191) ?_ ?_
  · rintro v M2 b N2 ⟨⟨rfl, v0, v1, w2, _, _, hs2⟩, _, _⟩
    rw [if_pos w2.1.2.2.2.2.1]
    by_cases c : 224 < v
    · rw [if_pos c, if_pos c]
      unfold mf_160_j20 mf_237_j34
      rw [mq_27t, mq_Bt, mq_Bt, mq_190, mq_Bs]
      obtain ⟨x, N3, e, hx⟩ := mq_xd (mq_X_th (mq_W_bad w2)) (fun z => md_237_j38 (a := v) z mq_ob_refl)
      rw [e]
      exact mq_2_thr hx
    · rw [if_neg c, if_neg c]
      rw [Int32.lt_iff_toInt_lt] at c
      simp only [Int32.reduceToInt] at c
      obtain ⟨a, bb, cc, ha, hb, hcc, hc4, hab⟩ := mi_head v0 (by omega)
      unfold mf_160_j20
      rw [mq_27, mq_Bs]
      by_cases g : 4 < mm_rem v 9 + mm_rem (v / 9) 5
      · rw [if_pos g, if_pos g]
        unfold mf_160_j67 mf_237_j34
        rw [mq_27t, mq_Bt, mq_Bt, mq_190, mq_Bs]
        obtain ⟨x, N3, e, hx⟩ := mq_xd (mq_X_th (mq_W_bad (M := mm_pi (mm_pi (mm_pi M2 80 6 (mm_rem v 9)) 80 7 (mm_rem (v / 9) 5)) 80 8 (v / 45)) w2)) (fun z => md_237_j38 (a := v) z mq_ob_refl)
        rw [e]
        exact mq_2_thr hx
      · rw [if_neg g, if_neg g]
        rw [Int32.lt_iff_toInt_lt, hab] at g
        simp only [Int32.reduceToInt] at g
        unfold mf_160_j67 mf_237_j38
        rw [mq_27, mq_Bs, mq_Ba]
        generalize hlc : mm_rem v 9 = lc at ha
        generalize hlp : mm_rem (v / 9) 5 = lp at hb
        generalize hpb : v / 45 = pb at hcc
        have w2' : mq_W (mm_pi (mm_pi (mm_pi M2 80 6 lc) 80 7 lp) 80 8 pb) N2 := w2
        refine mq_2_B (mq_2_K (mq_low1 w2' (n := 4) (by decide) (by decide)) mk_47 mk_193) ?_ ?_
        · rintro x M3 b N3 ⟨⟨rfl, _, w3, _, _, hs3⟩, k1, k2⟩
          rw [mq_Ba]
          refine mq_2_B (mq_2_K (mq_low1 w3 (n := 8) (by decide) (by decide)) mk_47 mk_193) ?_ ?_
          · rintro n M4 b N4 ⟨⟨rfl, _, w4, _, _, hs4⟩, k3, k4⟩
            rw [if_pos w4.1.2.2.2.2.1]
            have w4' : mq_W (mm_pl M4 80 14 n) N4 := w4
            have bad : ∀ G : mm_M → mm_O Unit, mq_2 mq_XE (mm_B (mf_160_j119 1 (mm_pl M4 80 14 n)) (fun _ M1 => G M1)) (mf_237_j74 v n N4) (fun _ M2 _ N2 => mq_Q M2 N2) := by
              intro G
              unfold mf_160_j119 mf_237_j74
              rw [mq_27t, mq_Bt, mq_Bt, mq_190, mq_Bs]
              obtain ⟨x, N3, e, hx⟩ := mq_xd (mq_X_th (mq_W_bad w4')) (fun z => md_237_j78 (a := v) (b := n) z mq_ob_refl)
              rw [e]
              exact mq_2_thr hx
            by_cases d1 : n < -1
            · rw [if_pos d1, if_pos d1]; exact bad _
            · rw [if_neg d1, if_neg d1]
              by_cases d2 : 16384 < n
              · rw [if_pos d2, if_pos d2]; exact bad _
              · rw [if_neg d2, if_neg d2]
                rw [Int64.lt_iff_toInt_lt] at d1 d2
                rw [show (-1 : Int64).toInt = -1 from rfl] at d1
                simp only [Int64.reduceToInt] at d2
                unfold mf_160_j119
                rw [mq_27, mq_Bs, mq_Bs]
                refine mq_2_Bl mq_158 ?_
                rintro _ M5 ⟨f1, f2, f3, f4, f5, f6, f7, k5⟩
                have w5 : mq_W M5 N4 := ⟨(mq_S_kp (w2 := []) w4'.1 k5 (mq_kp_refl (M := N4)) rfl rfl).1, w4.2⟩
                have o6 : M5.1 80 6 = lc := by rw [(k5 80 6 rfl).1]; show M4.1 80 6 = lc; rw [(k3 80 6 rfl).1, (k1 80 6 rfl).1]; rfl
                have o7 : M5.1 80 7 = lp := by rw [(k5 80 7 rfl).1]; show M4.1 80 7 = lp; rw [(k3 80 7 rfl).1, (k1 80 7 rfl).1]; rfl
                have o8 : M5.1 80 8 = pb := by rw [(k5 80 8 rfl).1]; show M4.1 80 8 = pb; rw [(k3 80 8 rfl).1, (k1 80 8 rfl).1]; rfl
                have o14 : M5.2.1 80 14 = n := by rw [(k5 80 14 rfl).2]; rfl
                have os : M5.1 3 1 = 0 := by rw [(k5 3 1 rfl).1]; show M4.1 3 1 = 0; rw [hs4, hs3]; show M2.1 3 1 = 0; rw [hs2]; exact hs0
                clear k1 k2 k3 k4 hs4 hs3 w3 w2'
                unfold mf_159_j23 mf_237_j78
                refine mq_want'' w5 ?_ ?_
                · intro M6 N6 w6 _ k6 k7
                  have w6' : mq_W M6 (mm_pl (mm_pl N6 84 33 4294967295) 84 34 0) := w6
                  refine mq_2_B (mq_chigh (a := v) (b := n) w6' rfl) ?_ ?_
                  · rintro x M7 _ N7 ⟨g1, w7, k8, k9⟩
                    unfold mf_237_j127
                    rw [if_pos w7.1.2.2.2.2.1, hlc, hlp, hpb]
                    refine mq_2_Br mq_L164 ?_
                    rintro _ N8 ⟨g2, k10⟩
                    rw [mq_L196, mq_Bs]
                    have kA : mq_kp [(84, some 37), (84, some 38), (84, some 39), (98, none), (84, some 35), (99, none)] N7 (mm_pl (mm_pl (mm_pl (mm_pl (mm_pi N8 84 35 0) 99 0 1) 99 1 1) 99 2 1) 99 3 1) := by
                      refine mq_kp_pl (mq_kp_pl (mq_kp_pl (mq_kp_pl (mq_kp_pi ?_ rfl) rfl) rfl) rfl) rfl
                      exact mq_kp_trans (mq_kp_pi (mq_kp_pi (mq_kp_pi mq_kp_refl rfl) rfl) rfl) (mq_kp_sub k10 rfl)
                    have kM : mq_kp [(80, some 5)] M7 (mm_pl M7 80 5 x) := mq_kp_pl mq_kp_refl rfl
                    have hS8 := (mq_S_kp w7.1 kM kA rfl rfl).1
                    have hJ : mq_cJ lc lp pb n (mm_pl M7 80 5 x) (mm_pl (mm_pl (mm_pl (mm_pl (mm_pi N8 84 35 0) 99 0 1) 99 1 1) 99 2 1) 99 3 1) := by
                      refine ⟨⟨hS8, by rw [(kA 84 15 rfl).1]; exact w7.2⟩, ⟨?_, ?_, ?_⟩, 0, 1, 1, 1, 1, ⟨⟨?_, ?_, ?_, ?_, ?_, ?_, ?_, ?_, ?_⟩, ?_, ?_, ?_, rfl, rfl, rfl, rfl, rfl⟩, ?_⟩
                      · show M7.2.1 80 4 = _
                        rw [(k8 80 4 rfl).2, (k6 80 4 rfl).2, (kA 84 33 rfl).2, (k9 84 33 rfl).2, f2]; rfl
                      · rw [mq_pls, (kA 84 34 rfl).2, g1]
                      · intro i hi
                        show M7.1 81 i = N8.1 98 _
                        rw [(k8 81 i rfl).1, (k6 81 i rfl).1, f1 i hi, g2 _ (mq_mp_lt hi)]
                      · show M7.1 80 6 = lc
                        rw [(k8 80 6 rfl).1, (k6 80 6 rfl).1]; exact o6
                      · show M7.1 80 7 = lp
                        rw [(k8 80 7 rfl).1, (k6 80 7 rfl).1]; exact o7
                      · show M7.1 80 8 = pb
                        rw [(k8 80 8 rfl).1, (k6 80 8 rfl).1]; exact o8
                      · show M7.2.1 80 14 = n
                        rw [(k8 80 14 rfl).2, (k6 80 14 rfl).2]; exact o14
                      · show M7.1 80 9 = 0
                        rw [(k8 80 9 rfl).1, (k6 80 9 rfl).1]; exact f3
                      · show M7.1 80 10 = 1
                        rw [(k8 80 10 rfl).1, (k6 80 10 rfl).1]; exact f4
                      · show M7.1 80 11 = 1
                        rw [(k8 80 11 rfl).1, (k6 80 11 rfl).1]; exact f5
                      · show M7.1 80 12 = 1
                        rw [(k8 80 12 rfl).1, (k6 80 12 rfl).1]; exact f6
                      · show M7.1 80 13 = 1
                        rw [(k8 80 13 rfl).1, (k6 80 13 rfl).1]; exact f7
                      · show N8.1 84 37 = lc
                        rw [(k10 84 37 rfl).1]; rfl
                      · show N8.1 84 38 = lp
                        rw [(k10 84 38 rfl).1]; rfl
                      · show N8.1 84 39 = pb
                        rw [(k10 84 39 rfl).1]; rfl
                      · have e31 : M7.1 3 1 = 0 := by rw [(k8 3 1 rfl).1, (k6 3 1 rfl).1]; exact os
                        have e31' : (mm_pl M7 80 5 x).1 3 1 = 0 := e31
                        rw [e31']
                        exact ⟨⟨a, bb, cc, ha, hb, hcc, by omega, hc4⟩, ⟨by omega, by omega⟩, ⟨by decide, by decide⟩, ⟨by decide, by decide⟩, ⟨by decide, by decide⟩, ⟨by decide, by decide⟩, ⟨by decide, by decide⟩, fun q => absurd q (by decide), fun q => q⟩
                    refine mq_2_B (mq_cloop hJ) ?_ ?_
                    · rintro _ M9 _ N9 ⟨w9, c9⟩
                      unfold mf_159_j146 mf_237_j251 mf_159_j160
                      rw [if_pos w9.1.2.2.2.2.1, c9.2.1]
                      by_cases q : N9.2.1 84 34 = 0
                      · rw [if_pos q, if_pos q, mq_27, mq_Bs]
                        exact mq_2_ret (mq_S_Q w9.1)
                      · rw [if_neg q, if_neg q, mq_27t, mq_Bt, mq_190, mq_Bs]
                        exact mq_2_thr (mq_X_th (mq_W_bad w9))
                    · intro M9 b N9 hx
                      exact mq_xd hx (fun z => md_237_j251 z mq_ob_refl)
                  · intro M7 b N7 hx
                    exact mq_xd hx (fun z => md_237_j127 z mq_ob_refl)
                · intro M6 N6 hx
                  exact mq_1_B (mq_xd (A := N6) hx (fun z => md_237_L98 z (mq_ob_pl (mq_ob_pl mq_ob_refl)))) (fun _ _ hx => mq_xd hx (fun z => md_237_j127 z mq_ob_refl))
          · rintro M4 b N4 ⟨hx, _, _⟩
            rw [if_neg (by rw [hx.2.2.2.1]; decide)]
            exact mq_xd hx (fun z => md_237_j78 z mq_ob_refl)
        · rintro M3 b N3 ⟨hx, _, _⟩
          refine mq_1_B (mq_xd hx (fun z => md_193 z)) (fun _ _ hx => ?_)
          rw [if_neg (by rw [hx.2.2.2.1]; decide)]
          exact mq_xd hx (fun z => md_237_j78 z mq_ob_refl)
  · rintro M2 b N2 ⟨hx, _, _⟩
    rw [if_neg (by rw [hx.2.2.2.1]; decide)]
    exact mq_xd hx (fun z => md_237_j38 z mq_ob_refl)
