/-! FORM 3: FILES -/
theorem md_212_L43' {A N : mm_M} {z s : Int32} (hz : mq_Z A) (g : mq_ob A N) : mq_D A (mf_212_L43 z s N) := by
  unfold mf_212_L43
  refine mq_d_Lc (I := fun _ => True) (m := fun (s : Int32) => (6 - s.toInt).toNat) ?_ trivial g
  rintro k N _ g
  unfold mf_212_b43
  refine mq_1_ite (fun c => ?_) (fun c => mq_1_ret ⟨.inr ⟨_, rfl⟩, g⟩)
  rw [Int32.lt_iff_toInt_lt] at c
  simp only [Int32.reduceToInt] at c
  refine mq_1_B (mq_d_c hz g md_191) (fun a N2 g => mq_1_ret ⟨.inl ⟨_, rfl, trivial, ?_⟩, g⟩)
  have := mq_lo k
  rw [mi_add]; simp only [Int32.reduceToInt]; omega
theorem mq_pass6 {M N : mm_M} {z n : Int32} (h : mq_W M N) (hn : n = 6) : mq_2 mq_XE (mf_77_L2 n 0 M) (mf_212_L43 z 0 N) (fun _ M2 _ N2 => mq_W M2 N2 ∧ mq_le M M2) := by
  subst hn
  unfold mf_77_L2 mf_212_L43
  refine mq_2_L (I := fun (a : Int32) M2 (b : Int32) N2 => a = b ∧ 0 ≤ a.toInt ∧ mq_W M2 N2 ∧ mq_le M M2) (J := fun M (b : Int32) N => mq_X M N) (m := fun (a : Int32) _ => (6 - a.toInt).toNat) ?_ ?_ ⟨rfl, by decide, h, mq_le_refl⟩
  · rintro k M2 b N2 ⟨rfl, k0, hW, hl⟩
    unfold mf_77_b2 mf_212_b43
    by_cases c : k < 6
    · rw [if_pos c, if_pos c]
      rw [Int32.lt_iff_toInt_lt] at c
      simp only [Int32.reduceToInt] at c
      have e1 : (k + 1).toInt = k.toInt + 1 := by rw [mi_add]; simp only [Int32.reduceToInt]; omega
      refine mq_2_B (mq_next1 hW) ?_ ?_
      · rintro v M3 b N3 ⟨rfl, v0, v1, hW3, hl3, hr3, hs3⟩
        exact mq_2_ret (.inl ⟨_, _, rfl, rfl, ⟨rfl, by omega, hW3, mq_le_trans hl hl3⟩, by omega⟩)
      · intro M3 b N3 hx
        exact mq_1_ret (.inl ⟨_, rfl, hx⟩)
    · rw [if_neg c, if_neg c]
      exact mq_2_ret (.inr ⟨_, _, rfl, rfl, hW, hl⟩)
  · intro M2 b N2 hx
    exact mq_xd hx (fun z => md_212_L43' z mq_ob_refl)
theorem mq_passn {M N : mm_M} {z n : Int32} (h : mq_W M N) : mq_2 mq_XE (mf_77_L2 n 0 M) (mf_212_L75 z n 0 N) (fun _ M2 _ N2 => mq_W M2 N2 ∧ mq_le M M2) := by
  unfold mf_77_L2 mf_212_L75
  refine mq_2_L (I := fun (a : Int32) M2 (b : Int32) N2 => a = b ∧ 0 ≤ a.toInt ∧ mq_W M2 N2 ∧ mq_le M M2) (J := fun M (b : Int32) N => mq_X M N) (m := fun (a : Int32) _ => (n.toInt - a.toInt).toNat) ?_ ?_ ⟨rfl, by decide, h, mq_le_refl⟩
  · rintro k M2 b N2 ⟨rfl, k0, hW, hl⟩
    unfold mf_77_b2 mf_212_b75
    by_cases c : k < n
    · rw [if_pos c, if_pos c, if_pos hW.1.2.2.2.2.1]
      rw [Int32.lt_iff_toInt_lt] at c
      have := mq_hi n
      have e1 : (k + 1).toInt = k.toInt + 1 := by rw [mi_add]; simp only [Int32.reduceToInt]; omega
      refine mq_2_B (mq_next1 hW) ?_ ?_
      · rintro v M3 b N3 ⟨rfl, v0, v1, hW3, hl3, hr3, hs3⟩
        exact mq_2_ret (.inl ⟨_, _, rfl, rfl, ⟨rfl, by omega, hW3, mq_le_trans hl hl3⟩, by omega⟩)
      · intro M3 b N3 hx
        exact mq_1_ret (.inl ⟨_, rfl, hx⟩)
    · rw [if_neg c, if_neg c]
      exact mq_2_ret (.inr ⟨_, _, rfl, rfl, hW, hl⟩)
  · intro M2 b N2 hx
    exact mq_xd hx (fun z => md_212_L75 z mq_ob_refl)
theorem mq_text {M N : mm_M} (h : mq_W M N) : mq_2 mq_XE (mf_78 M) (mf_211 N) (fun _ M2 _ N2 => mq_W M2 N2 ∧ mq_le M M2) := by
  unfold mf_78 mf_211
  have e1 : mf_211_L2 1 N = mm_B (mf_191 N) (fun r1 M2 => mf_211_L2 r1 M2) := by
    unfold mf_211_L2
    rw [mm_L_eq]
    show mm_B (mf_211_b2 1 N) _ = _
    unfold mf_211_b2
    rw [if_neg (show ¬ (1 : Int32) = 0 from by decide), if_pos h.1.2.2.2.2.1]
    simp only [mq_Ba, mq_Bs]
    rfl
  rw [e1, mq_Ba]
  refine mq_2_B (mq_next1 h) ?_ ?_
  · rintro v M2 b N2 ⟨rfl, v0, v1, hW, hl, hr, hs⟩
    refine mq_2_B (E := mq_XE) (P := fun _ M3 _ N3 => mq_W M3 N3 ∧ mq_le M M3) ?_ (fun _ _ _ _ q => mq_2_ret q) (fun _ _ _ q => mq_1_ret q)
    unfold mf_78_L10 mf_211_L2
    refine mq_2_L (I := fun (a : Int32 × Int32) M3 (b : Int32) N3 => a.1 = b ∧ 0 ≤ a.2.toInt ∧ a.2.toInt ≤ (M3.1 1 2).toInt ∧ mq_W M3 N3 ∧ mq_le M M3) (J := fun M (b : Int32) N => mq_X M N) (m := fun _ M => ((M.1 1 1).toInt - (M.1 1 2).toInt).toNat) ?_ ?_ ⟨rfl, (by decide : 0 ≤ (0 : Int32).toInt), (mq_W_lim hW).1, hW, hl⟩
    · rintro ⟨x, k⟩ M3 b N3 ⟨hb, k0, k1, hW3, hl3⟩
      dsimp only at hb k0 k1
      subst hb
      obtain ⟨l1, l2, l3, l4⟩ := mq_W_lim hW3
      unfold mf_78_b10 mf_211_b2
      dsimp only
      have ek : (k + 1).toInt = k.toInt + 1 := by rw [mi_add]; simp only [Int32.reduceToInt]; omega
      rw [if_pos (show k < 1000000 from by rw [Int32.lt_iff_toInt_lt]; simp only [Int32.reduceToInt]; omega)]
      by_cases c : x = 0
      · rw [if_pos c, if_pos c]
        exact mq_2_ret (.inr ⟨_, _, rfl, rfl, hW3, hl3⟩)
      · rw [if_neg c, if_neg c, if_pos hW3.1.2.2.2.2.1]
        refine mq_2_B (mq_next1 hW3) ?_ ?_
        · rintro w M4 b N4 ⟨rfl, w0, w1, hW4, hl4, hr4, hs4⟩
          have t4 := hl4.2.1
          obtain ⟨p1, p2, p3, p4⟩ := mq_W_lim hW4
          refine mq_2_ret (.inl ⟨_, _, rfl, rfl, ⟨rfl, by dsimp only; omega, by dsimp only; omega, hW4, mq_le_trans hl3 hl4⟩, ?_⟩)
          rw [t4] at p3 ⊢
          omega
        · intro M4 b N4 hx
          exact mq_1_ret (.inl ⟨_, rfl, hx⟩)
    · intro M3 b N3 hx
      exact mq_xd hx (fun z => md_211_L2 z mq_ob_refl)
  · intro M2 b N2 hx
    exact mq_1_B (mq_xd hx (fun z => md_211_L2 z mq_ob_refl)) (fun _ _ hx => mq_1_ret hx)
theorem md_212_j165 {A N : mm_M} (hz : mq_Z A) (g : mq_ob A N) : mq_D A (mf_212_j165 N) := by
  unfold mf_212_j165
  refine mq_d_B (mq_d_c hz g (fun z => md_203 z)) (fun _ N2 g => ?_)
  have z := mq_Z_ob hz g
  obtain ⟨b, e⟩ := mq_crc_r (q := 86) (m := 16384) (v1 := 0) (v2 := N2.1 84 4) (N := N2) (by decide) z.2.2.2.2.1
  rw [e, mq_Bs]
  exact mq_d_B (mq_d_c hz g (fun z => md_213 z)) (fun _ _ g => mq_d_B (mq_d_c hz g (fun z => md_213 z)) (fun _ _ g => mq_d_ret g))
theorem md_212_j120 {A N : mm_M} {v : Int32} (hz : mq_Z A) (g : mq_ob A N) : mq_D A (mf_212_j120 v N) := by
  unfold mf_212_j120
  refine mq_d_ite (fun _ => md_212_j165 hz g) (fun _ => ?_)
  have z := mq_Z_ob hz g
  obtain ⟨b, e⟩ := mq_crc_r (q := 85) (m := 10000) (v1 := 0) (v2 := N.1 84 5) (N := N) (by decide) z.2.2.1
  rw [e, mq_Bs]
  exact mq_d_B (mq_d_c hz g (fun z => md_193 z)) (fun _ _ g => mq_d_w hz g (md_212_j165 hz g))
theorem md_212_j109 {A N : mm_M} {v : Int32} (hz : mq_Z A) (g : mq_ob A N) : mq_D A (mf_212_j109 v N) := by
  unfold mf_212_j109
  exact mq_d_ite (fun _ => md_212_j120 hz g) (fun _ => mq_d_B (mq_d_c hz g (fun z => md_211 z)) (fun _ _ g => md_212_j120 hz g))
theorem md_212_j98 {A N : mm_M} {v : Int32} (hz : mq_Z A) (g : mq_ob A N) : mq_D A (mf_212_j98 v N) := by
  unfold mf_212_j98
  exact mq_d_ite (fun _ => md_212_j109 hz g) (fun _ => mq_d_B (mq_d_c hz g (fun z => md_211 z)) (fun _ _ g => md_212_j109 hz g))
theorem md_212_j60 {A N : mm_M} {v : Int32} (hz : mq_Z A) (g : mq_ob A N) : mq_D A (mf_212_j60 v N) := by
  unfold mf_212_j60
  exact mq_d_ite (fun _ => md_212_j98 hz g) (fun _ => mq_d_B (mq_d_c hz g (fun z => md_193 z)) (fun _ _ g => mq_d_B (md_212_L75 hz g) (fun _ _ g => md_212_j98 hz g)))
theorem mq_f43d {M N : mm_M} {z v : Int32} (hx : mq_X M N) : mq_1 (mm_B (mf_212_L43 z 0 N) (fun _ M7 => mf_212_j60 v M7)) (fun _ N2 => mq_X M N2) := mq_1_B (mq_xd hx (fun z => md_212_L43' z mq_ob_refl)) (fun _ _ hx => mq_xd hx (fun z => md_212_j60 z mq_ob_refl))
/-- behind the head: blocks, sums -/
theorem mq_f165 {M N : mm_M} (h : mq_W M N) (hf : M.1 1 4 = 0) (hr : mq_RW N) : mq_2 mq_XE (mf_76_j179 M) (mf_212_j165 N) (fun _ M2 _ N2 => mq_Q M2 N2) := by
  unfold mf_76_j179 mf_212_j165
  refine mq_2_B (mq_blocks h hf hr (.inr ⟨by decide, by decide⟩)) ?_ ?_
  · rintro _ M2 _ N2 hW2
    obtain ⟨u1, u2, u3, u4⟩ := hW2.1.2.1
    have u1' : M2.1 3 1 = N2.1 84 4 := u1
    have u3' : (M2.1 3 1).toInt ≤ 16384 := u3
    obtain ⟨x, e0, e2⟩ := mq_crc_is (p := 4) (n := 16384) (q := 86) (m := 16384) (v1 := 0) (v2 := M2.1 3 1) (M := M2) (N := N2) (by decide) u3' u3' (fun j j0 j1 => (u4 j j1).1)
    rw [← u1', e2, mq_Bs]
    unfold mf_213
    rw [mq_Ba]
    refine mq_2_B (mq_2_K (mq_low_left hW2 (by decide) (by decide)) mk_47 mk_193) ?_ ?_
    · rintro v M3 b N3 ⟨⟨rfl, v1, hW3, hl3, hr3, hs3⟩, k1, k2⟩
      obtain ⟨x', e1, e3⟩ := mq_crc_is (p := 4) (n := 16384) (q := 86) (m := 16384) (v1 := 0) (v2 := M2.1 3 1) (M := M3) (N := N2) (by decide) u3' u3' (fun j j0 j1 => by rw [(k1 4 j rfl).1]; exact (u4 j j1).1)
      have exx : x' = x := by rw [e2] at e3; cases e3; rfl
      subst exx
      rw [hs3, e1, mq_Bs, if_pos hW3.1.2.2.2.2.1]
      unfold mf_76_j220
      by_cases d : v.toInt32 = x'
      · rw [if_pos d, if_pos d, mq_27, mq_Bs, mq_Bs]
        rw [mq_Ba]
        refine mq_2_B (mq_2_K (mq_low1 hW3 (by decide) (by decide)) mk_47 mk_193) ?_ ?_
        · rintro y M4 b N4 ⟨⟨rfl, y1, hW4, hl4, hr4, hs4⟩, k3, k4⟩
          rw [if_pos hW4.1.2.2.2.2.1]
          have y2 : mq_n y < 4294967296 := y1 (by decide)
          have y3 : y.toInt = mq_n y := mq_n_int (by omega)
          have eU : N3.1 84 4 = M3.1 3 1 := hW3.1.2.1.1.symm
          rw [eU, hs4]
          have s0 := hW3.1.2.1.2.1
          have s1 := hW3.1.2.1.2.2.1
          have iff1 : (y = (M3.1 3 1).toInt64 ↔ y.toInt32 = M3.1 3 1) := by
            constructor
            · intro q; rw [q, mi_3264]
            · intro q
              have q2 := congrArg Int32.toInt q
              rw [Int64.toInt_toInt32, mi_bm] at q2
              exact Int64.toInt_inj.mp (by rw [Int32.toInt_toInt64]; omega)
          unfold mf_76_j248
          by_cases g : y.toInt32 = M3.1 3 1
          · rw [if_pos (iff1.mpr g), if_pos g, mq_27, mq_Bs]
            exact mq_2_ret (mq_S_Q hW4.1)
          · rw [if_neg (fun q => g (iff1.mp q)), if_neg g, mq_27t, mq_Bt, mq_190, mq_Bs]
            exact mq_2_thr (mq_X_th (mq_W_bad hW4))
        · rintro M4 b N4 ⟨hx, _, _⟩
          rw [if_neg (by rw [hx.2.2.2.1]; decide)]
          exact mq_1_ret hx
      · rw [if_neg d, if_neg d, mq_27t, mq_Bt, mq_190, mq_Bs, mq_Bs]
        have hx := mq_X_th (mq_W_bad hW3)
        obtain ⟨t, N4, e, hx⟩ := mq_1_B (mq_xd hx (fun z => md_193 (v := 4) z)) (fun r N5 hx => show mq_1 (mm_B (if N5.1 84 7 = 0 then (if r.toInt32 = (mm_pi N3 84 7 1).1 84 4 then some (Sum.inl (), N5) else mm_B (mf_190 N5) (fun _ M3 => some (Sum.inl (), M3))) else some (Sum.inl (), N5) : mm_O Unit) (fun _ M5 => (some (Sum.inl (), M5) : mm_O Unit))) (fun _ N => mq_X (mm_th M3) N) from by
          rw [if_neg (by rw [hx.2.2.2.1]; decide)]
          exact mq_1_ret hx)
        rw [mq_Ba, e]
        exact mq_2_thr hx
    · rintro M3 b N3 ⟨hx, _, _⟩
      rw [if_neg (by rw [hx.2.2.2.1]; decide), mq_Bs]
      refine mq_1_B (P := fun _ N => mq_X M3 N) ?_ (fun _ _ q => mq_1_ret q)
      exact mq_xd hx (fun z => md_213 z)
  · intro M2 b N2 hx
    have z := mq_X_Z hx
    obtain ⟨y, e⟩ := mq_crc_r (q := 86) (m := 16384) (v1 := 0) (v2 := N2.1 84 4) (N := N2) (by decide) z.2.2.2.2.1
    rw [e, mq_Bs]
    exact mq_1_B (mq_xd hx (fun z => md_213 z)) (fun _ _ hx => mq_1_B (mq_xd hx (fun z => md_213 z)) (fun _ _ hx => mq_1_ret hx))
