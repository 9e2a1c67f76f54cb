/-! FORM 10: repeats, whole -/
/-- the reference's road of a repeat -/
noncomputable def mq_RR (n : Int64) (p : Int32) (r25 : Int32) (M26 : mm_M) : mm_O Int32 := if r25 = 0 then (mm_B (mf_239 (0 : Int32) M26) (fun _ M27 => mm_B (mf_233 (((216 : Int32) + ((16 : Int32) * (M27.1 84 35))) + p) M27) (fun r28 M29 => if r28 = 0 then (mf_238_j263 n p (1 : Int32) M29) else (mf_238_j263 n p (0 : Int32) M29)))) else (mm_B (mf_233 ((408 : Int32) + (M26.1 84 35)) M26) (fun r30 M31 => if r30 = 0 then (mf_238_j364 n p (1 : Int32) M31) else (mm_B (mf_233 ((420 : Int32) + (M31.1 84 35)) M31) (fun r32 M33 => mf_238_j364 n p ((2 : Int32) + r32) M33))))
theorem mq_RRd {M N : mm_M} {n : Int64} {p r : Int32} (hx : mq_X M N) : mq_1 (mq_RR n p r N) (fun _ N2 => mq_X M N2) := by
  unfold mq_RR
  refine mq_1_ite (fun _ => ?_) (fun _ => ?_)
  · refine mq_1_B (mq_xd hx (fun z => md_239 z)) (fun _ _ hx => mq_1_B (mq_xd hx (fun z => md_233 z)) (fun _ _ hx => mq_1_ite (fun _ => ?_) (fun _ => ?_)))
    all_goals exact mq_xd hx (fun z => md_238_j263 z mq_ob_refl)
  · rw [mq_233z (mq_X_Z hx) mq_ob_refl, mq_Bs, if_pos rfl]
    exact mq_xd hx (fun z => md_238_j364 z mq_ob_refl (.inl rfl))
theorem mq_mp_a {i : Nat} (h : i < 216) : mq_mp i = i := by unfold mq_mp; rw [if_pos h]
theorem mq_mp_b {i : Nat} (h : 216 ≤ i) (h2 : i < 240) : mq_mp i = i + 192 := by unfold mq_mp; rw [if_neg (by omega), if_pos h2]
theorem mq_mp_c {i : Nat} (h : 240 ≤ i) (h2 : i < 432) : mq_mp i = i - 24 := by unfold mq_mp; rw [if_neg (by omega), if_neg (by omega), if_pos h2]
theorem mq_mpx {a b : Int32} {i : Nat} (ha : a.toInt = i) (h : i < 14340) (hb : b.toInt = mq_mp i) : 0 ≤ a.toInt ∧ a.toInt < 14340 ∧ b.toInt = mq_mp a.toInt.toNat := by
  have e : a.toInt.toNat = i := by omega
  rw [e]
  exact ⟨by omega, by omega, hb⟩
theorem mq_mp1 {st : Int32} {s : Nat} (h : st.toInt = s) (hs : s ≤ 11) (c d : Int32) (C D : Nat) (hc : c.toInt = C) (hd : d.toInt = D) (hC : C ≤ 1000) (hD : D ≤ 1000) (hm : D + s = mq_mp (C + s)) : 0 ≤ (c + st).toInt ∧ (c + st).toInt < 14340 ∧ (d + st).toInt = mq_mp (c + st).toInt.toNat := by
  refine mq_mpx (i := C + s) ?_ (by omega) ?_
  · rw [mi_add, hc, h]; omega
  · rw [mi_add, hd, h, ← hm]; omega
theorem mq_crep {M N : mm_M} {lc lp pb st r0 r1 r2 r3 p : Int32} {n : Int64} {P : Nat} (hW : mq_W M N) (hc : mq_cx M N) (hz : mq_cz lc lp pb n st r0 r1 r2 r3 M N) (hd : mq_cd lc lp pb n st r0 r1 r2 r3 (M.1 3 1).toInt) (hp : p.toInt = P) (hP : P < 16) (hne : (M.1 3 1).toInt ≠ n.toInt) : mq_2 mq_XE (mf_167 p M) (mm_B (mf_233 (204 + N.1 84 35) N) (mq_RR n p)) (fun _ M2 b N2 => b = 1 ∧ mq_cI lc lp pb n (M.1 3 1).toInt M2 N2) := by
  have hd0 := hd
  obtain ⟨d1, ⟨n0, n1⟩, ⟨d3, d3'⟩, d4, d5, d6, d7, d8, d9⟩ := hd
  have hst : st.toInt = st.toInt.toNat := by omega
  have hs11 : st.toInt.toNat ≤ 11 := by omega
  have z5 := hz.1.2.2.2.2.1
  have y4 := hz.2.2.2.2.1
  unfold mf_167
  rw [z5, y4]
  obtain ⟨x1, x2, x3⟩ := mq_mp1 hst hs11 204 204 204 204 rfl rfl (by decide) (by decide) (by rw [mq_mp_a (by omega)])
  refine mq_2_B (mq_2_K (mq_cbit hW hc (i := 204 + st) (j := 204 + st) x1 x2 x3) mk_161 mk_233) ?_ ?_
  · rintro v M2 b N2 ⟨⟨rfl, v1, w2, c2⟩, k1, k2⟩
    have hz2 := mq_cz_kp hz k1 k2 rfl rfl rfl
    have hsz : M2.1 3 1 = M.1 3 1 := (k1 3 1 rfl).1
    have hd2 : mq_cd lc lp pb n st r0 r1 r2 r3 (M2.1 3 1).toInt := by rw [hsz]; exact hd0
    have hz20 := hz2
    obtain ⟨⟨_, _, _, z4, z5, z6, z7, z8, z9⟩, _, _, _, y4, y5, y6, y7, y8⟩ := hz20
    obtain ⟨u1, u2, u3, u4⟩ := w2.1.2.1
    unfold mq_RR
    by_cases c : v = 0
    · rw [if_pos c, if_pos c, z6, mq_239 (s := 0) (r := r0) w2.1.2.2.2.2.1 (by decide) y5, ← u1]
      unfold mf_167_j36
      by_cases g : (M2.1 3 1).toInt < r0.toInt
      · rw [if_pos (show M2.1 3 1 < r0 from by rw [Int32.lt_iff_toInt_lt]; exact g), if_pos g, mq_27t, mq_Bt, mq_Bs]
        have hx : mq_X (mm_th M2) (mm_pi N2 84 7 1) := mq_X_th (mq_W_bad w2)
        rw [mq_233z (mq_X_Z hx) mq_ob_refl, mq_Bs, if_pos rfl]
        obtain ⟨b, N4, e, hx4⟩ := mq_xd hx (fun z => md_238_j263 (v1 := n) (v5 := p) (s0 := 1) z mq_ob_refl)
        rw [e]
        exact mq_2_thr hx4
      · rw [if_neg (show ¬ M2.1 3 1 < r0 from by rw [Int32.lt_iff_toInt_lt]; exact g), if_neg g, mq_27, mq_Bs, mq_Bs, z5, y4]
        have e16 : (16 * st).toInt = ((16 * st.toInt.toNat : Nat) : Int) := by rw [mi_mul]; simp only [Int32.reduceToInt]; omega
        have ea : (240 + 16 * st).toInt = ((240 + 16 * st.toInt.toNat : Nat) : Int) := by rw [mi_add, e16]; simp only [Int32.reduceToInt]; omega
        have eb : (216 + 16 * st).toInt = ((216 + 16 * st.toInt.toNat : Nat) : Int) := by rw [mi_add, e16]; simp only [Int32.reduceToInt]; omega
        have ea2 : (240 + 16 * st + p).toInt = ((240 + 16 * st.toInt.toNat + P : Nat) : Int) := by rw [mi_add, ea, hp]; omega
        have eb2 : (216 + 16 * st + p).toInt = ((216 + 16 * st.toInt.toNat + P : Nat) : Int) := by rw [mi_add, eb, hp]; omega
        obtain ⟨x1, x2, x3⟩ := mq_mpx (b := 216 + 16 * st + p) ea2 (by omega) (by rw [eb2, mq_mp_c (by omega) (by omega)]; omega)
        refine mq_2_B (mq_2_K (mq_cbit w2 c2 (i := 240 + 16 * st + p) (j := 216 + 16 * st + p) x1 x2 x3) mk_161 mk_233) ?_ ?_
        · rintro v M3 b N3 ⟨⟨rfl, v1, w3, c3⟩, k3, k4⟩
          have hz3 := mq_cz_kp hz2 k3 k4 rfl rfl rfl
          have hsz3 : M3.1 3 1 = M2.1 3 1 := (k3 3 1 rfl).1
          have hd3 : mq_cd lc lp pb n st r0 r1 r2 r3 (M3.1 3 1).toInt := by rw [hsz3, hsz]; exact hd0
          have hr3 : r0.toInt ≤ (M3.1 3 1).toInt := by rw [hsz3]; omega
          unfold mf_238_j263
          by_cases q : v = 0
          · rw [if_pos q, if_pos q, if_neg (show ¬ (1 : Int32) = 0 from by decide)]
            have := mq_crone (p := p) w3 c3 hz3 hd3 hr3 (by rw [hsz3, hsz]; exact hne)
            rw [hsz3, hsz] at this
            exact this
          · rw [if_neg q, if_neg q, if_pos rfl]
            have := mq_crlen w3 c3 hz3 hd3 hr3 hp hP
            rw [hsz3, hsz] at this
            exact this
        · rintro M3 b N3 ⟨⟨_, hx⟩, _, _⟩
          exact mq_1_ite (fun _ => mq_xd hx (fun z => md_238_j263 z mq_ob_refl)) (fun _ => mq_xd hx (fun z => md_238_j263 z mq_ob_refl))
    · rw [if_neg c, if_neg c]
      unfold mf_168
      rw [mq_Ba, z5, y4]
      obtain ⟨x1, x2, x3⟩ := mq_mp1 hst hs11 216 408 216 408 rfl rfl (by decide) (by decide) (by rw [mq_mp_b (by omega) (by omega)]; omega)
      refine mq_2_B (mq_2_K (mq_cbit w2 c2 (i := 216 + st) (j := 408 + st) x1 x2 x3) mk_161 mk_233) ?_ ?_
      · rintro v M3 b N3 ⟨⟨rfl, v1, w3, c3⟩, k3, k4⟩
        have hz3 := mq_cz_kp hz2 k3 k4 rfl rfl rfl
        have hsz3 : M3.1 3 1 = M2.1 3 1 := (k3 3 1 rfl).1
        have hd3 : mq_cd lc lp pb n st r0 r1 r2 r3 (M3.1 3 1).toInt := by rw [hsz3, hsz]; exact hd0
        have hz30 := hz3
        obtain ⟨⟨_, _, _, _, t5, t6, t7, t8, t9⟩, _, _, _, s4, s5, s6, s7, s8⟩ := hz30
        rcases v1 with rfl | rfl
        · rw [if_neg (show ¬ (0 : Int32) = 1 from by decide), if_pos rfl, mq_Bs]
          have := mq_cfront (M := M3) (N := N3) (M' := mm_pi (mm_pi M3 80 11 (M3.1 80 10)) 80 10 (M2.1 80 11)) (N' := mm_pl N3 99 1 (N3.2.1 99 0)) (q0 := r1) (q1 := r0) (q2 := r2) (q3 := r3) (s0 := 1) w3 c3 hz3 hd3 hp hP (by decide) s6 (fun d => mq_L385_1) (mq_kp_pi (mq_kp_pi mq_kp_refl rfl) rfl) (by rw [mq_ps]; exact z7) (by rw [mq_pj (by decide), mq_ps]; exact t6) (by rw [mq_pj (by decide), mq_pj (by decide)]; exact t8) (by rw [mq_pj (by decide), mq_pj (by decide)]; exact t9) (mq_kp_pl mq_kp_refl rfl) (by rw [mq_pls]; exact s5) (by rw [mq_plj (by decide)]; exact s7) (by rw [mq_plj (by decide)]; exact s8) d5 d4 d6 d7
          rw [hsz3, hsz] at this
          exact this
        · rw [if_pos rfl, if_neg (show ¬ (1 : Int32) = 0 from by decide), mq_Ba, t5, s4]
          obtain ⟨x1, x2, x3⟩ := mq_mp1 hst hs11 228 420 228 420 rfl rfl (by decide) (by decide) (by rw [mq_mp_b (by omega) (by omega)]; omega)
          refine mq_2_B (mq_2_K (mq_cbit w3 c3 (i := 228 + st) (j := 420 + st) x1 x2 x3) mk_161 mk_233) ?_ ?_
          · rintro v M4 b N4 ⟨⟨rfl, v1, w4, c4⟩, k5, k6⟩
            have hz4 := mq_cz_kp hz3 k5 k6 rfl rfl rfl
            have hsz4 : M4.1 3 1 = M3.1 3 1 := (k5 3 1 rfl).1
            have hd4 : mq_cd lc lp pb n st r0 r1 r2 r3 (M4.1 3 1).toInt := by rw [hsz4, hsz3, hsz]; exact hd0
            have hz40 := hz4
            obtain ⟨⟨_, _, _, _, t5', t6', t7', t8', t9'⟩, _, _, _, s4', s5', s6', s7', s8'⟩ := hz40
            unfold mf_168_j55
            rcases v1 with rfl | rfl
            · rw [if_neg (show ¬ (0 : Int32) = 1 from by decide), mq_Bs, show (2 : Int32) + 0 = 2 from rfl]
              have := mq_cfront (M := M4) (N := N4) (M' := mm_pi (mm_pi (mm_pi M4 80 12 (M4.1 80 11)) 80 11 (M4.1 80 10)) 80 10 (M3.1 80 12)) (N' := mm_pl (mm_pl N4 99 2 (N4.2.1 99 1)) 99 1 (N4.2.1 99 0)) (q0 := r2) (q1 := r0) (q2 := r1) (q3 := r3) (s0 := 2) w4 c4 hz4 hd4 hp hP (by decide) s7' (fun d => mq_L385_2) (mq_kp_pi (mq_kp_pi (mq_kp_pi mq_kp_refl rfl) rfl) rfl) (by rw [mq_ps]; exact t8) (by rw [mq_pj (by decide), mq_ps]; exact t6') (by rw [mq_pj (by decide), mq_pj (by decide), mq_ps]; exact t7') (by rw [mq_pj (by decide), mq_pj (by decide), mq_pj (by decide)]; exact t9') (mq_kp_pl (mq_kp_pl mq_kp_refl rfl) rfl) (by rw [mq_pls]; exact s5') (by rw [mq_plj (by decide), mq_pls]; exact s6') (by rw [mq_plj (by decide), mq_plj (by decide)]; exact s8') d6 d4 d5 d7
              rw [hsz4, hsz3, hsz] at this
              exact this
            · rw [if_pos rfl, mq_Bs, show (2 : Int32) + 1 = 3 from rfl]
              have := mq_cfront (M := M4) (N := N4) (M' := mm_pi (mm_pi (mm_pi (mm_pi M4 80 13 (M4.1 80 12)) 80 12 ((mm_pi M4 80 13 (M4.1 80 12)).1 80 11)) 80 11 ((mm_pi M4 80 13 (M4.1 80 12)).1 80 10)) 80 10 (M4.1 80 13)) (N' := mm_pl (mm_pl (mm_pl N4 99 3 (N4.2.1 99 2)) 99 2 (N4.2.1 99 1)) 99 1 (N4.2.1 99 0)) (q0 := r3) (q1 := r0) (q2 := r1) (q3 := r2) (s0 := 3) w4 c4 hz4 hd4 hp hP (by decide) s8' (fun d => mq_L385_3) (mq_kp_pi (mq_kp_pi (mq_kp_pi (mq_kp_pi mq_kp_refl rfl) rfl) rfl) rfl) (by rw [mq_ps]; exact t9') (by rw [mq_pj (by decide), mq_ps, mq_pj (by decide)]; exact t6') (by rw [mq_pj (by decide), mq_pj (by decide), mq_ps, mq_pj (by decide)]; exact t7') (by rw [mq_pj (by decide), mq_pj (by decide), mq_pj (by decide), mq_ps]; exact t8') (mq_kp_pl (mq_kp_pl (mq_kp_pl mq_kp_refl rfl) rfl) rfl) (by rw [mq_pls]; exact s5') (by rw [mq_plj (by decide), mq_pls]; exact s6') (by rw [mq_plj (by decide), mq_plj (by decide), mq_pls]; exact s7') d7 d4 d5 d6
              rw [hsz4, hsz3, hsz] at this
              exact this
          · rintro M4 b N4 ⟨⟨hb, hx⟩, _, _⟩
            rcases hb with rfl | rfl
            · exact mq_xd hx (fun z => md_238_j364 z mq_ob_refl (.inr (.inl rfl)))
            · exact mq_xd hx (fun z => md_238_j364 z mq_ob_refl (.inr (.inr rfl)))
      · rintro M3 b N3 ⟨⟨hb, hx⟩, _, _⟩
        refine mq_1_ite (fun _ => mq_xd hx (fun z => md_238_j364 z mq_ob_refl (.inl rfl))) (fun _ => ?_)
        rw [mq_233z (mq_X_Z hx) mq_ob_refl, mq_Bs]
        exact mq_xd hx (fun z => md_238_j364 z mq_ob_refl (.inr (.inl rfl)))
  · rintro M2 b N2 ⟨⟨_, hx⟩, _, _⟩
    exact mq_RRd hx
