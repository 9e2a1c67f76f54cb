/-! FORM 10: a byte, in step -/
theorem mq_cx_kp {M N M2 N2 : mm_M} {w w2 : List (Nat × Option Nat)} (h : mq_cx M N) (k1 : mq_kp w M M2) (k2 : mq_kp w2 N N2) (h1 : mq_ws w 80 4 = false) (h2 : mq_ws w 80 5 = false) (h3 : w.all (fun e => decide (e.1 < 81) || decide (81 < e.1)) = true) (h4 : mq_ws w2 84 33 = false) (h5 : mq_ws w2 84 34 = false) (h6 : w2.all (fun e => decide (e.1 < 98) || decide (98 < e.1)) = true) : mq_cx M2 N2 := by
  obtain ⟨a, b, c⟩ := h
  refine ⟨by rw [(k1 80 4 h1).2, (k2 84 33 h4).2]; exact a, by rw [(k1 80 5 h2).2, (k2 84 34 h5).2]; exact b, fun i hi => ?_⟩
  rw [(k1 81 i (mq_ws_out h3 (by decide) (by decide))).1, (k2 98 _ (mq_ws_out h6 (by decide) (by decide))).1]
  exact c i hi
def mq_cd (lc lp pb : Int32) (n : Int64) (st r0 r1 r2 r3 : Int32) (sz : Int) : Prop := (∃ a b c : Nat, lc.toInt = a ∧ lp.toInt = b ∧ pb.toInt = c ∧ a + b ≤ 4 ∧ c ≤ 4) ∧ (-1 ≤ n.toInt ∧ n.toInt ≤ 16384) ∧ (0 ≤ st.toInt ∧ st.toInt ≤ 11) ∧ (1 ≤ r0.toInt ∧ r0.toInt ≤ 16384) ∧ (1 ≤ r1.toInt ∧ r1.toInt ≤ 16384) ∧ (1 ≤ r2.toInt ∧ r2.toInt ≤ 16384) ∧ (1 ≤ r3.toInt ∧ r3.toInt ≤ 16384) ∧ (7 ≤ st.toInt → r0.toInt ≤ sz) ∧ (0 ≤ n.toInt → sz ≤ n.toInt)
/-- what follows a byte in the reference -/
noncomputable def mq_K241 (M3 : mm_M) : mm_O Int32 := if (M3.1 84 35) < (4 : Int32) then (some (.inl (1 : Int32), (mm_pi M3 84 35 (0 : Int32)))) else (if (M3.1 84 35) < (10 : Int32) then (some (.inl (1 : Int32), (mm_pi M3 84 35 ((M3.1 84 35) - (3 : Int32))))) else (some (.inl (1 : Int32), (mm_pi M3 84 35 ((M3.1 84 35) - (6 : Int32))))))
theorem mq_K241d {A M : mm_M} (g : mq_ob A M) : mq_D A (mq_K241 M) := by
  unfold mq_K241
  exact mq_d_ite (fun _ => mq_d_ret (mq_ob_pi g rfl)) (fun _ => mq_d_ite (fun _ => mq_d_ret (mq_ob_pi g rfl)) (fun _ => mq_d_ret (mq_ob_pi g rfl)))
theorem mi_k255 {k : Int32} (k0 : 256 ≤ k.toInt) (k1 : k.toInt < 512) : k &&& 255 = k - 256 ∧ 0 ≤ (k - 256).toInt ∧ (k - 256).toInt < 256 := by
  have e : (k - 256).toInt = k.toInt - 256 := by rw [mi_sub]; simp only [Int32.reduceToInt]; omega
  refine ⟨Int32.toInt_inj.mp ?_, by omega, by omega⟩
  rw [mi_andm k 8 (by decide) 255 rfl 256 rfl, e]
  omega
theorem mq_clit2 {M N : mm_M} {lc lp pb st r0 r1 r2 r3 k st2 : Int32} {n : Int64} (hW : mq_W M N) (hc : mq_cx M N) (hz : mq_cz lc lp pb n st r0 r1 r2 r3 M N) (k0 : 256 ≤ k.toInt) (k1 : k.toInt < 512) (hK : ∀ N3, N3.1 84 35 = st → mq_K241 N3 = some (.inl 1, mm_pi N3 84 35 st2)) : mq_2 mq_XE (mf_165_j245 k (mm_pi M 80 9 st2)) (mm_B (mf_241_j193 k N) (fun _ M3 => mq_K241 M3)) (fun _ M2 b N2 => b = 1 ∧ mq_W M2 N2 ∧ mq_cx M2 N2 ∧ mq_cz lc lp pb n st2 r0 r1 r2 r3 M2 N2 ∧ (M2.1 3 1).toInt = (M.1 3 1).toInt + 1) := by
  obtain ⟨e1, e2, e3⟩ := mi_k255 k0 k1
  unfold mf_165_j245 mf_241_j193
  rw [e1, mq_Ba]
  have hS : mq_S (mm_pi M 80 9 st2) N := hW.1
  refine mq_2_B (mq_2_K (mq_putp hS e2 e3) mk_52 mk_194) ?_ ?_
  · rintro _ M2 b N2 ⟨⟨rfl, s1, s2, s3, _, _⟩, q1, q2⟩
    rw [if_neg (show ¬ (1 : Int32) = 0 from by decide), mq_Bs]
    rw [s2] at s1
    have h35 : (mm_pi N2 84 8 (N.1 84 8 + 1)).1 84 35 = st := by rw [mq_pj (by decide), (q2 84 35 rfl).1]; exact hz.2.2.2.2.1
    rw [hK _ h35]
    have kM : mq_kp [(3, some 1), (3, some 2), (4, none), (80, some 9)] M M2 := mq_kp_trans (mq_kp_pi mq_kp_refl rfl) (mq_kp_sub q1 rfl)
    have kN : mq_kp [(84, some 4), (84, some 7), (86, none), (84, some 8), (84, some 35)] N (mm_pi (mm_pi N2 84 8 (N.1 84 8 + 1)) 84 35 st2) := mq_kp_pi (mq_kp_pi (mq_kp_sub q2 rfl) rfl) rfl
    have h15 : N2.1 84 15 = 0 := by rw [(q2 84 15 rfl).1]; exact hW.2
    have hS2 : mq_S M2 (mm_pi (mm_pi N2 84 8 (N.1 84 8 + 1)) 84 35 st2) := s1
    refine mq_2_ret ⟨rfl, ⟨hS2, h15⟩, mq_cx_kp hc kM kN rfl rfl rfl rfl rfl rfl, ?_, s3⟩
    obtain ⟨⟨a1, a2, a3, a4, a5, a6, a7, a8, a9⟩, b1, b2, b3, b4, b5, b6, b7, b8⟩ := hz
    refine ⟨⟨?_, ?_, ?_, ?_, ?_, ?_, ?_, ?_, ?_⟩, ?_, ?_, ?_, ?_, ?_, ?_, ?_, ?_⟩
    · rw [(kM 80 6 rfl).1]; exact a1
    · rw [(kM 80 7 rfl).1]; exact a2
    · rw [(kM 80 8 rfl).1]; exact a3
    · rw [(kM 80 14 rfl).2]; exact a4
    · rw [(q1 80 9 rfl).1, mq_ps]
    · rw [(kM 80 10 rfl).1]; exact a6
    · rw [(kM 80 11 rfl).1]; exact a7
    · rw [(kM 80 12 rfl).1]; exact a8
    · rw [(kM 80 13 rfl).1]; exact a9
    · rw [(kN 84 37 rfl).1]; exact b1
    · rw [(kN 84 38 rfl).1]; exact b2
    · rw [(kN 84 39 rfl).1]; exact b3
    · rw [mq_ps]
    · rw [(kN 99 0 rfl).2]; exact b5
    · rw [(kN 99 1 rfl).2]; exact b6
    · rw [(kN 99 2 rfl).2]; exact b7
    · rw [(kN 99 3 rfl).2]; exact b8
  · rintro M2 b N2 ⟨⟨rfl, hx⟩, q1, q2⟩
    rw [if_pos rfl, mq_Bs]
    refine mq_xd (A := mm_pi N2 84 8 (N.1 84 8 + 0)) ?_ (fun z => mq_K241d mq_ob_refl)
    refine mq_X_ob hx (mq_ob_same mq_ob_refl ?_)
    rw [(q2 84 8 rfl).1]; exact Int32.add_zero _
theorem mq_clit3 {M N : mm_M} {lc lp pb st r0 r1 r2 r3 k : Int32} {n : Int64} (hW : mq_W M N) (hc : mq_cx M N) (hz : mq_cz lc lp pb n st r0 r1 r2 r3 M N) (t0 : 0 ≤ st.toInt) (t1 : st.toInt ≤ 11) (k0 : 256 ≤ k.toInt) (k1 : k.toInt < 512) : mq_2 mq_XE (mf_165_j205 k M) (mm_B (mf_241_j193 k N) (fun _ M3 => mq_K241 M3)) (fun _ M2 b N2 => b = 1 ∧ mq_W M2 N2 ∧ mq_cx M2 N2 ∧ (∃ st2, 0 ≤ st2.toInt ∧ st2.toInt < 7 ∧ mq_cz lc lp pb n st2 r0 r1 r2 r3 M2 N2) ∧ (M2.1 3 1).toInt = (M.1 3 1).toInt + 1) := by
  unfold mf_165_j205 mf_165_j241
  rw [hz.1.2.2.2.2.1]
  by_cases c : st < 4
  · rw [if_pos c]
    refine mq_2_mono (mq_clit2 (st2 := 0) hW hc hz k0 k1 (fun N3 h => ?_)) ?_ (fun _ _ _ q => q)
    · unfold mq_K241; rw [h, if_pos c]
    · rintro _ M2 b N2 ⟨q1, q2, q3, q4, q5⟩
      exact ⟨q1, q2, q3, ⟨_, by decide, by decide, q4⟩, q5⟩
  · rw [if_neg c]
    rw [Int32.lt_iff_toInt_lt] at c
    simp only [Int32.reduceToInt] at c
    by_cases d : st < 10
    · rw [if_pos d]
      have e : (st - 3).toInt = st.toInt - 3 := by rw [mi_sub]; simp only [Int32.reduceToInt]; omega
      refine mq_2_mono (mq_clit2 (st2 := st - 3) hW hc hz k0 k1 (fun N3 h => ?_)) ?_ (fun _ _ _ q => q)
      · unfold mq_K241; rw [h, if_neg (show ¬ st < 4 from by rw [Int32.lt_iff_toInt_lt]; simp only [Int32.reduceToInt]; omega), if_pos d]
      · rintro _ M2 b N2 ⟨q1, q2, q3, q4, q5⟩
        rw [Int32.lt_iff_toInt_lt] at d
        simp only [Int32.reduceToInt] at d
        exact ⟨q1, q2, q3, ⟨_, by omega, by omega, q4⟩, q5⟩
    · rw [if_neg d]
      have e : (st - 6).toInt = st.toInt - 6 := by rw [mi_sub]; simp only [Int32.reduceToInt]; omega
      refine mq_2_mono (mq_clit2 (st2 := st - 6) hW hc hz k0 k1 (fun N3 h => ?_)) ?_ (fun _ _ _ q => q)
      · unfold mq_K241; rw [h, if_neg (show ¬ st < 4 from by rw [Int32.lt_iff_toInt_lt]; simp only [Int32.reduceToInt]; omega), if_neg d]
      · rintro _ M2 b N2 ⟨q1, q2, q3, q4, q5⟩
        rw [Int32.lt_iff_toInt_lt] at d
        simp only [Int32.reduceToInt] at d
        exact ⟨q1, q2, q3, ⟨_, by omega, by omega, q4⟩, q5⟩
theorem mq_clit1 {M N : mm_M} {lc lp pb st r0 r1 r2 r3 bf : Int32} {n : Int64} (hW : mq_W M N) (hc : mq_cx M N) (hz : mq_cz lc lp pb n st r0 r1 r2 r3 M N) (hd : mq_cd lc lp pb n st r0 r1 r2 r3 (M.1 3 1).toInt) (b0 : 0 ≤ bf.toInt) (b1 : bf.toInt < 256) : mq_2 mq_XE (mf_165_j27 (M.1 3 1) bf M) (mm_B (mf_241_j22 bf N) (fun _ M3 => mq_K241 M3)) (fun _ M2 b N2 => b = 1 ∧ mq_W M2 N2 ∧ mq_cx M2 N2 ∧ (∃ st2, 0 ≤ st2.toInt ∧ st2.toInt < 7 ∧ mq_cz lc lp pb n st2 r0 r1 r2 r3 M2 N2) ∧ (M2.1 3 1).toInt = (M.1 3 1).toInt + 1) := by
  obtain ⟨⟨a, b, cc, ha, hb, _, hab, _⟩, _, ⟨t0, t1⟩, ⟨p0, p1⟩, _, _, _, hr, _⟩ := hd
  obtain ⟨u1, u2, u3, u4⟩ := hW.1.2.1
  have hz0 := hz
  obtain ⟨⟨z1, z2, z3, z4, z5, z6, z7, z8, z9⟩, y1, y2, y3, y4, y5, y6, y7, y8⟩ := hz0
  obtain ⟨F, hF, f1, f2⟩ := mi_fam (size := M.1 3 1) (before := bf) u2 b0 b1 ha hb hab
  unfold mf_165_j27 mf_241_j22 mf_241_j76
  rw [z1, z2, z5, z6, y1, y2, y4, ← u1, show (0 : Int32).toNatClampNeg = 0 from rfl, y5, mi_3264]
  generalize mm_shl (M.1 3 1 &&& (mm_shl 1 lp - 1)) lc + mm_shr bf (8 - lc) = fam at f1
  generalize (M.1 3 1 &&& (mm_shl 1 lp - 1)) * mm_shl 1 lc + mm_shr bf (8 - lc) = fam2 at f2
  have g0 : (768 * fam).toInt = ((768 * F : Nat) : Int) := by rw [mi_mul, f1]; simp only [Int32.reduceToInt]; omega
  have g1 : (2052 + 768 * fam).toInt = ((2052 + 768 * F : Nat) : Int) := by rw [mi_add, g0]; simp only [Int32.reduceToInt]; omega
  have g2 : (768 * fam2).toInt = ((768 * F : Nat) : Int) := by rw [mi_mul, f2]; simp only [Int32.reduceToInt]; omega
  have g3 : (2244 + 768 * fam2).toInt = ((2244 + 768 * F : Nat) : Int) := by rw [mi_add, g2]; simp only [Int32.reduceToInt]; omega
  have hm : ∀ k, k < 768 → 2052 + 768 * F + k < 14340 ∧ 2244 + 768 * F + k = mq_mp (2052 + 768 * F + k) := by
    intro k hk
    refine ⟨by omega, ?_⟩
    unfold mq_mp
    repeat' split
    all_goals omega
  by_cases c : st < 7
  · rw [Int32.lt_iff_toInt_lt] at c
    simp only [Int32.reduceToInt] at c
    rw [if_pos (show st < 7 from by rw [Int32.lt_iff_toInt_lt]; simp only [Int32.reduceToInt]; omega), if_neg (show ¬ 6 < st from by rw [Int32.lt_iff_toInt_lt]; simp only [Int32.reduceToInt]; omega), if_pos rfl, mq_Ba]
    refine mq_2_B (mq_2_K (mq_cby0 (n := 1) (j := 0) hW hc g1 g3 hm rfl rfl (by decide) (by decide) (by decide)) mk_165_L178 mk_241_L118) ?_ ?_
    · rintro k M2 b N2 ⟨⟨rfl, k0, k1, w2, c2⟩, q1, q2⟩
      refine mq_2_mono (mq_clit3 w2 c2 (mq_cz_kp hz q1 q2 rfl rfl rfl) t0 t1 k0 k1) ?_ (fun _ _ _ q => q)
      rintro _ M3 b N3 ⟨x1, x2, x3, x4, x5⟩
      exact ⟨x1, x2, x3, x4, by rw [x5, (q1 3 1 rfl).1]⟩
    · rintro M2 b N2 ⟨hx, _, _⟩
      exact mq_1_B (mq_xd hx (fun z => md_241_j193 z mq_ob_refl)) (fun _ _ hx => mq_xd hx (fun z => mq_K241d mq_ob_refl))
  · rw [Int32.lt_iff_toInt_lt] at c
    simp only [Int32.reduceToInt] at c
    have hrs := hr (by omega)
    have es : (M.1 3 1 - r0).toInt = (M.1 3 1).toInt - r0.toInt := by rw [mi_sub]; omega
    rw [if_neg (show ¬ st < 7 from by rw [Int32.lt_iff_toInt_lt]; simp only [Int32.reduceToInt]; omega), if_pos (show 6 < st from by rw [Int32.lt_iff_toInt_lt]; simp only [Int32.reduceToInt]; omega), if_neg (show ¬ M.1 3 1 < r0 from by rw [Int32.lt_iff_toInt_lt]; omega), if_pos (mq_inr (by omega) (by omega)), if_neg (show ¬ (1 : Int32) = 0 from by decide), if_pos hW.1.2.2.2.2.1, if_pos (show mm_in 0 4 = true from by decide), if_pos (mq_inr (by omega) (by omega)), (u4 _ (by rw [mq_cl]; omega)).1, ← mq_Ba (g := fun r34 M33 => mf_165_j205 r34 M33), mq_Ba (x := mf_241_L118 _ _ _ _)]
    refine mq_2_B (mq_2_K (mq_cby1 g1 g3 hm 8 (n := 1) (j := 0) hW hc rfl rfl (by decide) (by decide) (by decide)) (l := mw_165_L178) (M0 := M) ?_ mk_241_L118) ?_ ?_
    · exact mq_K_B (mq_K_call mk_165_L108 mq_kp_refl rfl) (fun r M1 h => mq_K_call mk_165_L178 h rfl)
    · rintro k M2 b N2 ⟨⟨rfl, k0, k1, w2, c2⟩, q1, q2⟩
      refine mq_2_mono (mq_clit3 w2 c2 (mq_cz_kp hz q1 q2 rfl rfl rfl) t0 t1 k0 k1) ?_ (fun _ _ _ q => q)
      rintro _ M3 b N3 ⟨x1, x2, x3, x4, x5⟩
      exact ⟨x1, x2, x3, x4, by rw [x5, (q1 3 1 rfl).1]⟩
    · rintro M2 b N2 ⟨hx, _, _⟩
      exact mq_1_B (mq_xd hx (fun z => md_241_j193 z mq_ob_refl)) (fun _ _ hx => mq_xd hx (fun z => mq_K241d mq_ob_refl))
theorem mq_clit {M N : mm_M} {lc lp pb st r0 r1 r2 r3 : Int32} {n : Int64} (hW : mq_W M N) (hc : mq_cx M N) (hz : mq_cz lc lp pb n st r0 r1 r2 r3 M N) (hd : mq_cd lc lp pb n st r0 r1 r2 r3 (M.1 3 1).toInt) : mq_2 mq_XE (mf_165 M) (mm_B (mf_241 N) (fun _ M3 => mq_K241 M3)) (fun _ M2 b N2 => b = 1 ∧ mq_W M2 N2 ∧ mq_cx M2 N2 ∧ (∃ st2, 0 ≤ st2.toInt ∧ st2.toInt < 7 ∧ mq_cz lc lp pb n st2 r0 r1 r2 r3 M2 N2) ∧ (M2.1 3 1).toInt = (M.1 3 1).toInt + 1) := by
  unfold mf_165 mf_241
  obtain ⟨u1, u2, u3, u4⟩ := hW.1.2.1
  rw [← u1]
  by_cases c : (M.1 3 1).toInt = 0
  · have e : M.1 3 1 = 0 := Int32.toInt_inj.mp c
    rw [if_neg (show ¬ 0 < M.1 3 1 from by rw [Int32.lt_iff_toInt_lt]; simp only [Int32.reduceToInt]; omega), if_pos e]
    exact mq_clit1 hW hc hz hd (by decide) (by decide)
  · have es : (M.1 3 1 - 1).toInt = (M.1 3 1).toInt - 1 := by rw [mi_sub]; simp only [Int32.reduceToInt]; omega
    rw [if_pos (show 0 < M.1 3 1 from by rw [Int32.lt_iff_toInt_lt]; simp only [Int32.reduceToInt]; omega), if_neg (show ¬ M.1 3 1 = 0 from fun q => c (by rw [q]; rfl)), if_pos (mq_inr (by omega) (by omega)), if_pos (mq_inr (by omega) (by omega))]
    obtain ⟨q1, q2, q3⟩ := u4 (M.1 3 1 - 1).toNatClampNeg (by rw [mq_cl]; omega)
    rw [← q1]
    exact mq_clit1 hW hc hz hd q2 q3
