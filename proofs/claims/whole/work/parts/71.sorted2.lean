/-! FORM 9: a block to its end, the loop of blocks, whole -/
theorem mq_2_Br' {α β γ : Type} {E : mm_M → β → mm_M → Prop} {E2 : mm_M → γ → mm_M → Prop} {Q : α → mm_M → γ → mm_M → Prop} {P : α → mm_M → β → mm_M → Prop} {x : mm_O α} {y : mm_O β} {g : β → mm_M → mm_O γ} (h : mq_2 E x y P) (hg : ∀ a M b N, P a M b N → ∃ c, g b N = some (.inl c, N) ∧ Q a M c N) (he : ∀ M b N, E M b N → ∃ c N2, g b N = some (.inl c, N2) ∧ E2 M c N2) : mq_2 E2 x (mm_B y g) Q := by
  obtain ⟨b, N, e, q⟩ := h
  rw [e]
  rcases q with ⟨a, M, e1, q⟩ | ⟨M, e1, q⟩
  · obtain ⟨c, ec, hQ⟩ := hg a M b N q
    exact ⟨c, N, ec, .inl ⟨a, M, e1, hQ⟩⟩
  · obtain ⟨c, N2, ec, hE⟩ := he M b N q
    exact ⟨c, N2, ec, .inr ⟨M, e1, hE⟩⟩
theorem mq_crh_is {p n q m : Nat} {v1 v2 : Int32} {M N : mm_M} (h0 : 0 ≤ v1.toInt) (hn : v2.toInt ≤ n) (hm : v2.toInt ≤ m) (he : ∀ j : Nat, v1.toInt ≤ j → (j : Int) < v2.toInt → M.1 p j = N.1 q j) : ∃ x, mf_29 p n v1 v2 M = some (.inl x, M) ∧ mf_183 q m v1 v2 N = some (.inl x, N) := by
  obtain ⟨b, N2, e, ⟨a, M2, e1, q1, q2, q3⟩ | ⟨_, _, q⟩⟩ := mq_crh (M := M) (N := N) h0 hn hm he
  · subst q1 q2 q3
    exact ⟨_, e1, e⟩
  · exact q.elim
theorem mq_sfin {M N : mm_M} {crc o v2 v3 : Int32} (hS : mq_S M N) (hf : M.1 1 4 = N.1 84 13) (ho : M.1 42 10 = o) (o0 : 0 ≤ o.toInt) (o1 : o.toInt < (M.1 42 12).toInt) (hla : mq_la M N) : mq_2 mq_XE (mm_B (mf_145 M) (fun _ M5 => mm_B (mf_146 M5) (fun _ M6 => mm_B (mf_29 4 16384 (M.1 3 1) (M6.1 3 1) M6) (fun r7 M8 => if r7 = crc then (mf_137_j241 v2 v3 crc (0 : Int32) M8) else (mf_137_j241 v2 v3 crc (1 : Int32) M8))))) (mf_224_j189 crc o N) (fun r M3 b N3 => b = crc ∧ r = .inl (((mm_shl v2 1) ||| (mm_ush v2 (32 - 1))) ^^^ crc, v3 + 1) ∧ mq_S M3 N3 ∧ M3.1 1 4 = N3.1 84 13 ∧ mq_rem M3 = mq_rem M) := by
  obtain ⟨a1, a2, a3, a4⟩ := hla
  have hn : (M.1 42 12).toInt = (M.1 42 12).toInt.toNat := by omega
  generalize (M.1 42 12).toInt.toNat = n at hn
  have f1 : ∀ s, s < n → (M.1 47 s).toInt + 1 = (((M.1 47 s).toInt + 1).toNat : Int) ∧ 1 ≤ ((M.1 47 s).toInt + 1).toNat ∧ ((M.1 47 s).toInt + 1).toNat ≤ 256 := by
    intro s hs
    obtain ⟨_, q1, q2⟩ := a4 s (by omega)
    omega
  have f2 : ∀ s, s < n → (N.1 95 s).toInt + 1 = (((M.1 47 s).toInt + 1).toNat : Int) ∧ 1 ≤ ((M.1 47 s).toInt + 1).toNat ∧ ((M.1 47 s).toInt + 1).toNat ≤ 256 := by
    intro s hs
    rw [← (a4 s (by omega)).1]
    exact f1 s hs
  unfold mf_224_j189 mf_231
  refine mq_2_Bl (mq_steps (f := fun s => ((M.1 47 s).toInt + 1).toNat) hn (by omega) f1) ?_
  rintro _ M2 ⟨s1, k1⟩
  rw [mq_Ba]
  refine mq_2_Br (mq_places (f := fun s => ((M.1 47 s).toInt + 1).toNat) hS.2.2.2.2.1 (by rw [← a1]; exact hn) (by omega) f2) ?_
  rintro _ N2 ⟨s2, k2⟩
  obtain ⟨hS2, hr2, g1, g2⟩ := mq_S_kp hS k1 k2 rfl rfl
  have hl : mq_ls n M2 N2 := by
    refine ⟨by rw [(k1 42 12 rfl).1]; exact hn, by rw [(k2 84 28 rfl).1, ← a1]; exact hn, fun k hk => ?_⟩
    rw [(k1 47 k rfl).1, (k2 95 k rfl).1]
    obtain ⟨q0, q1, q2⟩ := a4 k (by omega)
    obtain ⟨s, hs, rfl⟩ := mc_pos_sur (f := fun s => ((M.1 47 s).toInt + 1).toNat) (fun s hs => (f1 s hs).2) hk
    have t1 := s1 s hs
    have t2 := s2 s hs
    exact ⟨q0, q1, q2, Int32.toInt_inj.mp (by rw [t1, t2]), by omega, by omega⟩
  refine mq_2_B (mq_2_K (mq_puttext (o := o) hS2 hl (by omega) (by rw [(k1 42 10 rfl).1]; exact ho) o0 (by omega)) mk_146 mk_231_j64) ?_ ?_
  · rintro _ M3 _ N3 ⟨⟨hS3, hr3⟩, k3, k4⟩
    rw [if_pos hS3.2.2.2.2.1]
    obtain ⟨u1, u2, u3, u4⟩ := hS3.2.1
    obtain ⟨x, e1, e2⟩ := mq_crh_is (p := 4) (n := 16384) (q := 86) (m := 16384) (v1 := M.1 3 1) (v2 := M3.1 3 1) (M := M3) (N := N3) hS.2.1.2.1 (by omega) (by omega) (fun j _ hj => (u4 j hj).1)
    rw [e1, ← u1, ← hS.2.1.1, e2, mq_Bs, mq_Bs]
    have hf3 : M3.1 1 4 = N3.1 84 13 := by rw [(k3 1 4 rfl).1, (k4 84 13 rfl).1, g1, g2]; exact hf
    unfold mf_137_j241
    by_cases c : x = crc
    · rw [if_pos c, if_pos c, mq_27, mq_Bs]
      exact mq_2_ret ⟨rfl, rfl, hS3, hf3, by omega⟩
    · rw [if_neg c, if_neg c, mq_27t, mq_Bt, mq_190, mq_Bs]
      exact mq_2_thr (mq_X_th (mq_S_bad hS3))
  · rintro M3 b N3 ⟨hx, _, _⟩
    rw [if_neg (by rw [hx.2.2.2.1]; decide)]
    exact mq_1_ret hx
theorem mq_sblk {M N : mm_M} {v2 v3 : Int32} (hS : mq_S M N) (hf : M.1 1 4 = N.1 84 13) : mq_2 (fun M t N => ∃ b, t = .inl b ∧ mq_X M N) (mf_137_j163 v2 v3 0 M) (mf_223_j116 v2 1 N) (fun r M3 t N3 => ∃ x, r = .inl (x, v3 + 1) ∧ t = .inl (x, 1) ∧ mq_S M3 N3 ∧ M3.1 1 4 = N3.1 84 13 ∧ mq_rem M3 < mq_rem M) := by
  unfold mf_137_j163 mf_223_j116 mf_224
  rw [mq_27, mq_Bs, if_pos hS.2.2.2.2.1, mq_Ba]
  refine mq_2_B (mq_2_K (mq_bits hS hf (n := 32) (by decide) (by decide)) mk_46 mk_198) ?_ ?_
  · rintro c M2 b N2 ⟨⟨rfl, c1, hS2, hf2, hr2⟩, k1, k2⟩
    simp only [Int32.reduceToInt] at hr2
    rw [if_pos hS2.2.2.2.2.1]
    have hS2' : mq_S (mm_pi M2 3 6 (M2.1 3 6 + 1)) (mm_pi N2 84 12 (N2.1 84 12 + 1)) := by
      obtain ⟨t1, t2, ⟨w1, w2, w3, w4, w5, w6⟩, t3, t4⟩ := hS2
      exact ⟨t1, t2, ⟨w1, w2, w3, w4, w5, by rw [mq_ps, mq_ps, w6]⟩, t3, t4⟩
    refine mq_2_Br' (E := mq_XE) (P := fun r M3 b N3 => b = c.toInt32 ∧ r = .inl (((mm_shl v2 1) ||| (mm_ush v2 (32 - 1))) ^^^ c.toInt32, v3 + 1) ∧ mq_S M3 N3 ∧ M3.1 1 4 = N3.1 84 13 ∧ mq_rem M3 < mq_rem M) ?_ ?_ ?_
    · refine mq_rdblock (crc := c.toInt32) (fG := fun M4 => mm_B (mf_145 M4) (fun _ M5 => mm_B (mf_146 M5) (fun _ M6 => mm_B (mf_29 4 16384 (M4.1 3 1) (M6.1 3 1) M6) (fun r7 M8 => if r7 = c.toInt32 then (mf_137_j241 v2 v3 c.toInt32 (0 : Int32) M8) else (mf_137_j241 v2 v3 c.toInt32 (1 : Int32) M8))))) hS2' hf2 ?_
      intro M3 N3 o hS3 hf3 hr3 ho o0 o1 hla
      refine mq_2_mono (mq_sfin hS3 hf3 ho o0 o1 hla) ?_ (fun _ _ _ q => q)
      rintro r M4 b N4 ⟨q1, q2, q3, q4, q5⟩
      have : mq_rem (mm_pi M2 3 6 (M2.1 3 6 + 1)) = mq_rem M2 := rfl
      exact ⟨q1, q2, q3, q4, by omega⟩
    · rintro r M3 b N3 ⟨rfl, q2, q3, q4, q5⟩
      exact ⟨_, rfl, _, q2, rfl, q3, q4, q5⟩
    · intro M3 b N3 hx
      exact ⟨_, N3, rfl, _, rfl, hx⟩
  · rintro M2 b N2 ⟨hx, _, _⟩
    rw [if_neg (by rw [hx.2.2.2.1]; decide), mq_Bs]
    exact mq_1_ret ⟨_, rfl, hx⟩
theorem mq_sblocks {M N : mm_M} (hS : mq_S M N) (hf : M.1 1 4 = N.1 84 13) : mq_2 mq_XE (mf_137_L100 (0, 0) M) (mf_223_L60 (0, 1) N) (fun u M2 v N2 => u = .inl v ∧ mq_S M2 N2 ∧ M2.1 1 4 = N2.1 84 13) := by
  unfold mf_137_L100 mf_223_L60
  refine mq_2_L4 (I := fun (a : Int32 × Int32) M2 (b : Int32 × Int32) N2 => b = (a.1, 1) ∧ 0 ≤ a.2.toInt ∧ a.2.toInt + mq_rem M2 ≤ 80007 ∧ mq_S M2 N2 ∧ M2.1 1 4 = N2.1 84 13) (J := fun M (_ : Int32 × Int32) N => mq_X M N) (m := fun _ M => (mq_rem M).toNat) ?_ ?_ ⟨rfl, by decide, ?_, hS, hf⟩
  · rintro ⟨v2, v3⟩ M2 b N2 ⟨rfl, h0, h1, hS, hf⟩
    dsimp only at h0 h1
    have lim := mq_S_lim hS
    unfold mf_137_b100 mf_223_b60
    dsimp only
    rw [if_pos (show v3 < 1000000 from by rw [Int32.lt_iff_toInt_lt]; simp only [Int32.reduceToInt]; omega), if_neg (show ¬ (1 : Int32) = 0 from by decide), if_pos hS.2.2.2.2.1]
    refine mq_2_B (mq_2_K (mq_bits hS hf (n := 48) (by decide) (by decide)) mk_46 mk_198) ?_ ?_
    · rintro c M3 b N3 ⟨⟨rfl, c1, hS3, hf3, hr3⟩, k1, k2⟩
      simp only [Int32.reduceToInt] at hr3
      have lim3 := mq_S_lim hS3
      by_cases d : c = 25779555029136
      · rw [if_pos d, if_pos d]
        refine mq_2_ret (.inr (.inr (.inl ⟨_, _, rfl, rfl, ?_⟩)))
        rw [mm_L_eq]
        dsimp only
        rw [if_pos rfl]
        exact ⟨_, _, rfl, rfl, hS3, hf3⟩
      · rw [if_neg d, if_neg d, if_pos hS3.2.2.2.2.1]
        by_cases g : c = 54156738319193
        · rw [if_pos g, if_pos g]
          refine mq_2_mono (mq_sblk hS3 hf3) ?_ ?_
          · rintro r M4 t N4 ⟨x, rfl, rfl, q1, q2, q3⟩
            have lim4 := mq_S_lim q1
            have e1 : (v3 + 1).toInt = v3.toInt + 1 := by rw [mi_add]; simp only [Int32.reduceToInt]; omega
            exact .inl ⟨_, _, rfl, rfl, ⟨rfl, by dsimp only; omega, by dsimp only; omega, q1, q2⟩, by omega⟩
          · rintro M4 t N4 ⟨b, rfl, hx⟩
            exact .inl ⟨_, rfl, hx⟩
        · rw [if_neg g, if_neg g]
          unfold mf_137_j163
          rw [mq_27t, mq_Bt, mq_190, mq_Bs]
          exact mq_2_thr (.inl ⟨_, rfl, mq_X_th (mq_S_bad hS3)⟩)
    · rintro M3 b N3 ⟨hx, _, _⟩
      refine mq_1_ite (fun _ => mq_1_ret (.inl ⟨_, rfl, hx⟩)) (fun _ => ?_)
      unfold mf_223_j116
      rw [if_neg (by rw [hx.2.2.2.1]; decide), if_neg (by rw [hx.2.2.2.1]; decide)]
      exact mq_1_ret (.inl ⟨_, rfl, hx⟩)
  · intro M2 b N2 hx
    exact mq_xd hx (fun z => md_223_L60 z mq_ob_refl)
  · have := mq_S_lim hS
    simp only [Int32.reduceToInt]
    omega
theorem mq_sortedD {M N : mm_M} (hx : mq_X M N) : mq_1 (mm_B (mf_223_L60 ((0 : Int32), (1 : Int32)) (mm_pi (mm_pi N 84 13 (1 : Int32)) 84 15 (0 : Int32))) (fun r14 M13 => mf_223_j141 r14 M13)) (fun _ N2 => mq_X M N2) :=
  mq_1_B (mq_xd (mq_X_pi (mq_X_pi hx rfl) rfl) (fun z => md_223_L60 z mq_ob_refl)) (fun _ _ hx => mq_xd hx (fun z => md_223_j141 z mq_ob_refl))
theorem mq_sortedE {M N : mm_M} (hx : mq_X M N) : mq_1 (mm_B (mf_191 N) (fun r4 M5 => if (M5.1 84 7) = 0 then (if r4 < (49 : Int32) then (mf_223_j42 M5) else (if (57 : Int32) < r4 then (mf_223_j42 M5) else (mm_B (mf_223_L60 ((0 : Int32), (1 : Int32)) (mm_pi (mm_pi M5 84 13 (1 : Int32)) 84 15 (0 : Int32))) (fun r7 M6 => mf_223_j141 r7 M6)))) else (mm_B (mf_223_L60 ((0 : Int32), (1 : Int32)) (mm_pi (mm_pi M5 84 13 (1 : Int32)) 84 15 (0 : Int32))) (fun r14 M13 => mf_223_j141 r14 M13)))) (fun _ N2 => mq_X M N2) := by
  refine mq_1_B (mq_xd hx (fun z => md_191 z)) (fun _ _ hx => ?_)
  rw [if_neg (by rw [hx.2.2.2.1]; decide)]
  exact mq_sortedD hx
theorem mq_sorted {M N : mm_M} (h : mq_W M N) : mq_2 mq_XE (mf_137 M) (mf_223 N) (fun _ M2 _ N2 => mq_Q M2 N2) := by
  unfold mf_137 mf_223 mf_137_j17
  refine mq_want'' h ?_ ?_
  · intro M2 N2 w2 _ _ _
    unfold mf_137_j37
    refine mq_want'' w2 ?_ ?_
    · intro M3 N3 w3 _ _ _
      unfold mf_137_j57
      refine mq_want'' w3 ?_ ?_
      · intro M4 N4 w4 _ _ _
        refine mq_2_B (mq_next1 w4) ?_ ?_
        · rintro f M5 b N5 ⟨rfl, f0, f1, w5, _⟩
          rw [if_pos w5.1.2.2.2.2.1]
          have bad : mq_2 mq_XE (mf_137_j85 1 M5) (mf_223_j42 N5) (fun _ M2 _ N2 => mq_Q M2 N2) := by
            unfold mf_137_j85 mf_223_j42
            rw [mq_27t, mq_Bt, mq_190, mq_Bs]
            obtain ⟨t, N6, e, hx⟩ := mq_sortedD (mq_X_th (mq_W_bad w5))
            rw [e]
            exact mq_2_thr hx
          by_cases c1 : f < 49
          · rw [if_pos c1, if_pos c1]; exact bad
          · rw [if_neg c1, if_neg c1]
            by_cases c2 : 57 < f
            · rw [if_pos c2, if_pos c2]; exact bad
            · rw [if_neg c2, if_neg c2]
              unfold mf_137_j85
              rw [mq_27, mq_Bs]
              have e6 : M5.1 1 6 = 0 := w5.1.2.2.2.1.1.trans w5.2
              have hS5 : mq_S (mm_pi M5 1 4 1) (mm_pi (mm_pi N5 84 13 1) 84 15 0) := ⟨w5.1.1, w5.1.2.1, w5.1.2.2.1, ⟨e6, w5.1.2.2.2.1.2.1, w5.1.2.2.2.1.2.2.1, fun q => absurd e6 q⟩, w5.1.2.2.2.2⟩
              refine mq_2_B (mq_sblocks hS5 rfl) ?_ ?_
              · rintro u M6 v N6 ⟨rfl, hS6, hf6⟩
                show mq_2 mq_XE (mf_137_j126 v M6) (mf_223_j141 v N6) _
                unfold mf_137_j126 mf_223_j141 mf_137_j145
                refine mq_2_B (mq_bits hS6 hf6 (n := 32) (by decide) (by decide)) ?_ ?_
                · rintro c M7 b N7 ⟨rfl, c1, hS7, hf7, hr7⟩
                  rw [if_pos hS7.2.2.2.2.1]
                  by_cases d : c.toInt32 = v
                  · rw [if_pos d, if_pos d, mq_27, mq_Bs]
                    exact mq_2_ret (mq_S_Q hS7)
                  · rw [if_neg d, if_neg d, mq_27t, mq_Bt, mq_190, mq_Bs]
                    exact mq_2_thr (mq_X_th (mq_S_bad hS7))
                · intro M7 b N7 hx
                  rw [if_neg (by rw [hx.2.2.2.1]; decide)]
                  exact mq_1_ret hx
              · intro M6 b N6 hx
                exact mq_xd hx (fun z => md_223_j141 z mq_ob_refl)
        · intro M5 b N5 hx
          rw [if_neg (by rw [hx.2.2.2.1]; decide)]
          exact mq_sortedD hx
      · intro M4 N4 hx
        exact mq_sortedE hx
    · intro M3 N3 hx
      exact mq_1_B (mq_xd hx (fun z => md_192 z)) (fun _ _ hx => mq_sortedE hx)
  · intro M2 N2 hx
    exact mq_1_B (mq_xd hx (fun z => md_192 z)) (fun _ _ hx => mq_1_B (mq_xd hx (fun z => md_192 z)) (fun _ _ hx => mq_sortedE hx))
