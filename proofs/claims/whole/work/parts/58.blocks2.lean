/-! BLOCKS: the loop of blocks; forms 1, 2, 3 -/
/-- what is seen at the end -/
def mq_Q (M N : mm_M) : Prop := mq_T M N ∧ mq_U M N ∧ mq_V M N ∧ N.1 84 7 = 0
theorem mq_S_Q {M N : mm_M} (h : mq_S M N) : mq_Q M N := ⟨h.1, h.2.1, h.2.2.1, h.2.2.2.2.1⟩
theorem mq_b62d {M N : mm_M} {v1 v2 v3 : Int32} (hx : mq_X M N) : mq_1 (mf_203_j62 v1 v2 v3 N) (fun t N => (∃ b, t = .inl b ∧ mq_X M N) ∨ (∃ v, t = .inr v ∧ mq_X M N)) := by
  unfold mf_203_j62
  rw [if_neg (by rw [hx.2.2.2.1]; decide)]
  exact mq_1_ret (.inr ⟨_, rfl, hx⟩)
theorem mq_b107d {M N : mm_M} {v1 v2 : Int32} (hx : mq_X M N) : mq_1 (mf_203_j107 v1 v2 N) (fun t N => (∃ b, t = .inl b ∧ mq_X M N) ∨ (∃ v, t = .inr v ∧ mq_X M N)) := by
  unfold mf_203_j107
  exact mq_1_B (mq_xd hx (fun z => md_208 z)) (fun _ _ hx => mq_1_ret (.inl ⟨_, rfl, hx⟩))
theorem mq_b38d {M N : mm_M} {v1 s0 : Int32} (hx : mq_X M N) : mq_1 (mf_203_j38 v1 s0 N) (fun t N => (∃ b, t = .inl b ∧ mq_X M N) ∨ (∃ v, t = .inr v ∧ mq_X M N)) := by
  unfold mf_203_j38
  refine mq_1_B (mq_xd hx (fun z => md_198 z)) (fun _ _ hx => ?_)
  rw [if_neg (by rw [hx.2.2.2.1]; decide)]
  exact mq_b62d hx
theorem mq_blocks {M N : mm_M} {win bd : Int32} (h : mq_W M N) (hf : M.1 1 4 = 0) (hr : mq_RW N) (hw : win = bd ∨ (32768 ≤ win.toInt ∧ 32768 ≤ bd.toInt)) : mq_2 mq_XE (mf_79 win M) (mf_203 bd N) (fun _ M2 _ N2 => mq_W (mm_pi M2 1 6 0) N2) := by
  unfold mf_79 mf_203
  refine mq_2_B (E := mq_XE) (P := fun _ M2 t N2 => t = .inr () ∧ mq_S M2 N2) ?_ ?_ ?_
  · unfold mf_79_L4 mf_203_L12
    refine mq_2_L (I := fun (a : Int32 × Int32) M2 (b : Int32) N2 => a.1 = b ∧ 0 ≤ a.2.toInt ∧ a.2.toInt + mq_rem M2 ≤ 80007 ∧ mq_S M2 N2 ∧ M2.1 1 4 = N2.1 84 13 ∧ mq_RW N2) (J := fun M _ N => mq_X M N) (m := fun _ M => (mq_rem M).toNat) ?_ ?_ ⟨rfl, by decide, ?_, ?_, ?_, ?_⟩
    · rintro ⟨last, k⟩ M2 b N2 ⟨hb, k0, k1, hS, hf, hr⟩
      dsimp only at hb k0 k1
      subst hb
      have lim := mq_S_lim hS
      unfold mf_79_b4 mf_203_b12
      dsimp only
      have ek : (k + 1).toInt = k.toInt + 1 := by rw [mi_add]; simp only [Int32.reduceToInt]; omega
      rw [if_pos (show k < 1000000 from by rw [Int32.lt_iff_toInt_lt]; simp only [Int32.reduceToInt]; omega), if_pos hS.2.2.2.2.1]
      by_cases c : last = 0
      · rw [if_pos c, if_pos c]
        refine mq_2_B (mq_2_K (mq_bit1 hS hf) mk_45 mk_198) ?_ ?_
        · rintro v M3 b N3 ⟨⟨hvb, hS3, hf3, hr3⟩, k3, k4⟩
          have hR3 := mq_RW_kp hr k4 rfl
          -- behind the first bit
          have key : ∀ s0 : Int32, mq_2 (fun M t N => (∃ b, t = .inl b ∧ mq_X M N) ∨ (∃ v, t = .inr v ∧ mq_X M N)) (mf_79_j30 win k s0 M3) (mf_203_j38 bd s0 N3) (fun r M5 t N5 => (∃ a2 b2, r = .inl a2 ∧ t = .inl b2 ∧ (a2.1 = b2 ∧ 0 ≤ a2.2.toInt ∧ a2.2.toInt + mq_rem M5 ≤ 80007 ∧ mq_S M5 N5 ∧ M5.1 1 4 = N5.1 84 13 ∧ mq_RW N5) ∧ (mq_rem M5).toNat < (mq_rem M2).toNat) ∨ (∃ u v, r = .inr u ∧ t = .inr v ∧ (v = .inr () ∧ mq_S M5 N5))) := by
            intro s0
            unfold mf_79_j30 mf_203_j38
            refine mq_2_B (mq_2_K (mq_bits hS3 hf3 (n := 2) (by decide) (by decide)) mk_46 mk_198) ?_ ?_
            · rintro x M4 b N4 ⟨⟨rfl, x1, hS4, hf4, hr4⟩, k5, k6⟩
              have hR4 := mq_RW_kp hR3 k6 rfl
              have x2 : mq_n x < 4 := x1
              have x3 : x.toInt32.toInt = mq_n x := mi_64to32 (by omega)
              simp only [Int32.reduceToInt] at hr4
              generalize x.toInt32 = y at x3
              rw [if_pos hS4.2.2.2.2.1]
              have lim4 := mq_S_lim hS4
              by_cases c3 : y = 3
              · unfold mf_79_j53
                rw [if_pos c3, if_pos c3, mq_27t, mq_Bt, mq_190, mq_Bs]
                obtain ⟨t, N5, e, hx⟩ := mq_b62d (v1 := bd) (v2 := s0) (v3 := y) (mq_X_th (mq_S_bad hS4))
                rw [e]
                exact mq_2_thr hx
              · unfold mf_79_j53 mf_203_j62
                rw [if_neg c3, if_neg c3, mq_27, mq_Bs, if_pos hS4.2.2.2.2.1]
                -- a block is counted
                have hS5 : mq_S (mm_pi M4 3 6 (M4.1 3 6 + 1)) (mm_pi N4 84 12 (N4.1 84 12 + 1)) := by
                  obtain ⟨v1, v2, v3, v4, v5, v6⟩ := hS4.2.2.1
                  refine ⟨hS4.1, hS4.2.1, ⟨v1, v2, v3, v4, v5, ?_⟩, hS4.2.2.2⟩
                  show M4.1 3 6 + 1 = N4.1 84 12 + 1
                  rw [v6]
                have hr5 : mq_rem (mm_pi M4 3 6 (M4.1 3 6 + 1)) = mq_rem M4 := rfl
                have hR5 : mq_RW (mm_pi N4 84 12 (N4.1 84 12 + 1)) := fun i hi => by rw [mq_pn (by decide)]; exact hR4 i hi
                -- letters behind the codes
                have lt : ∀ {M6 N6 : mm_M} {nl nd : Nat} {f0 f1 : Nat → Nat}, mq_S M6 N6 → M6.1 1 4 = N6.1 84 13 → mq_tabs nl nd f0 f1 M6 N6 → mq_RW N6 → mq_rem M6 ≤ mq_rem M4 → mq_2 (fun M t N => (∃ b, t = .inl b ∧ mq_X M N) ∨ (∃ v, t = .inr v ∧ mq_X M N)) (mf_79_j106 win s0 k M6) (mf_203_j107 bd s0 N6) (fun r M5 t N5 => (∃ a2 b2, r = .inl a2 ∧ t = .inl b2 ∧ (a2.1 = b2 ∧ 0 ≤ a2.2.toInt ∧ a2.2.toInt + mq_rem M5 ≤ 80007 ∧ mq_S M5 N5 ∧ M5.1 1 4 = N5.1 84 13 ∧ mq_RW N5) ∧ (mq_rem M5).toNat < (mq_rem M2).toNat) ∨ (∃ u v, r = .inr u ∧ t = .inr v ∧ (v = .inr () ∧ mq_S M5 N5))) := by
                  intro M6 N6 nl nd f0 f1 q1 q2 q3 q4 q5
                  unfold mf_79_j106 mf_203_j107
                  refine mq_2_B (mq_2_K (mq_letters q1 q2 q3 hw) mk_86 mk_208) ?_ ?_
                  · rintro _ M7 _ N7 ⟨⟨r1, r2, r3⟩, k7, k8⟩
                    have lim7 := mq_S_lim r1
                    exact mq_2_ret (.inl ⟨_, _, rfl, rfl, ⟨rfl, by dsimp only; omega, by dsimp only; omega, r1, r2, mq_RW_kp q4 k8 rfl⟩, by omega⟩)
                  · rintro M7 b N7 ⟨hx, _, _⟩
                    exact mq_1_ret (.inl ⟨_, rfl, hx⟩)
                by_cases c0 : y = 0
                · rw [if_pos c0, if_pos c0]
                  refine mq_2_B (mq_2_K (mq_stored hS5) mk_80 mk_204) ?_ ?_
                  · rintro _ M6 _ N6 ⟨⟨r1, r2⟩, k7, k8⟩
                    have lim6 := mq_S_lim r1.1
                    refine mq_2_ret (.inl ⟨_, _, rfl, rfl, ⟨rfl, by dsimp only; omega, by dsimp only; omega, r1.1, ?_, mq_RW_kp hR5 k8 rfl⟩, by omega⟩)
                    rw [(k7 1 4 rfl).1, (k8 84 13 rfl).1]; exact hf4
                  · rintro M6 b N6 ⟨hx, _, _⟩
                    exact mq_1_ret (.inl ⟨_, rfl, hx⟩)
                · rw [if_neg c0, if_neg c0]
                  by_cases c1 : y = 1
                  · rw [if_pos c1, if_pos c1]
                    refine mq_2_Bl (mq_1_K mq_known mk_81) ?_
                    rintro _ M6 ⟨⟨t1, t2⟩, k7⟩
                    refine mq_2_Br (mq_1_K mq_fixed mk_205) ?_
                    rintro _ N6 ⟨⟨t3, t4, t5, t6⟩, k8⟩
                    obtain ⟨r1, r2, r3, r4⟩ := mq_S_kp hS5 k7 k8 rfl rfl
                    refine lt (nl := 288) (nd := 32) (f0 := mc_kf) (f1 := fun _ => 5) r1 ?_ ⟨t1, t2, t3, t4, by rw [t5]; rfl, by rw [t6]; rfl, by omega, by omega, fun s _ => mc_kf_le s, fun _ _ => (by decide : (5 : Nat) ≤ 20)⟩ (mq_RW_kp hR5 k8 rfl) (by omega)
                    rw [r3, r4]; exact hf4
                  · rw [if_neg c1, if_neg c1]
                    have ea : ∀ Mx : mm_M, mm_B (mf_83 Mx) (fun _ M4 => mm_B (mf_84 M4) (fun _ M5 => mm_B (mf_85 M5) (fun _ M6 => mf_79_j106 win s0 k M6))) = mm_B (mm_B (mf_83 Mx) (fun _ M4 => mm_B (mf_84 M4) (fun _ M5 => mf_85 M5))) (fun _ M6 => mf_79_j106 win s0 k M6) := by
                      intro Mx
                      simp only [mq_Ba]
                    rw [ea]
                    have kk : mq_K mw_206 (mm_pi N4 84 12 (N4.1 84 12 + 1)) (mf_206 (mm_pi N4 84 12 (N4.1 84 12 + 1))) := mk_206
                    have kl : mq_K [(1, none), (3, none), (4, none), (16, none), (17, none), (18, none), (19, none), (20, none), (21, none), (22, none), (23, none), (24, none), (25, none), (26, none), (27, none), (28, none), (29, none), (30, none), (31, none), (32, none)] (mm_pi M4 3 6 (M4.1 3 6 + 1)) (mm_B (mf_83 (mm_pi M4 3 6 (M4.1 3 6 + 1))) (fun _ M4 => mm_B (mf_84 M4) (fun _ M5 => mf_85 M5))) := mq_K_B (mq_K_call mk_83 mq_kp_refl rfl) (fun _ _ h => mq_K_B (mq_K_call mk_84 h rfl) (fun _ _ h => mq_K_call mk_85 h rfl))
                    refine mq_2_B (mq_2_K (mq_dyn hS5 (M := mm_pi M4 3 6 (M4.1 3 6 + 1)) hf4 hR5) kl kk) ?_ ?_
                    · rintro _ M6 _ N6 ⟨⟨r1, r2, r3, nl, nd, f0, f1, r4⟩, k7, k8⟩
                      exact lt r1 r2 r4 (mq_RW_kp hR5 k8 rfl) (by omega)
                    · rintro M6 b N6 ⟨hx, _, _⟩
                      exact mq_b107d hx
            · rintro M4 b N4 ⟨hx, _, _⟩
              rw [if_neg (by rw [hx.2.2.2.1]; decide)]
              exact mq_b62d hx
          rcases hvb with ⟨rfl, rfl⟩ | ⟨rfl, rfl⟩
          · rw [if_neg (show ¬ (0 : Int32) = 1 from by decide), if_neg (show ¬ (0 : Int64) = 1 from by decide)]
            exact key 0
          · rw [if_pos rfl, if_pos rfl]
            exact key 1
        · rintro M3 b N3 ⟨hx, _, _⟩
          exact mq_1_ite (fun _ => mq_b38d hx) (fun _ => mq_b38d hx)
      · rw [if_neg c, if_neg c]
        exact mq_2_ret (.inr ⟨_, _, rfl, rfl, rfl, hS⟩)
    · intro M2 b N2 hx
      exact mq_xd hx (fun z => md_203_L12 z mq_ob_refl)
    · have := mq_S_lim h.1
      show (0 : Int32).toInt + mq_rem M ≤ 80007
      simp only [Int32.reduceToInt]
      omega
    · exact ⟨h.1.1, h.1.2.1, h.1.2.2.1, ⟨h.1.2.2.2.1.1.trans h.2, h.1.2.2.2.1.2.1, h.1.2.2.2.1.2.2.1, fun q => absurd (h.1.2.2.2.1.1.trans h.2) q⟩, h.1.2.2.2.2⟩
    · exact hf
    · intro i hi
      rw [mq_pn (by decide), mq_pn (by decide)]; exact hr i hi
  · rintro _ M2 t N2 ⟨rfl, hS⟩
    exact mq_2_ret (mq_S_left hS)
  · rintro M2 t N2 hx
    rcases t with t | t
    · exact mq_1_ret hx
    · exact mq_1_ret (mq_X_pi hx rfl)
