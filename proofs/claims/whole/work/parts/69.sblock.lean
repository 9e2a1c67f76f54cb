/-! FORM 9: letters, blocks, whole -/
theorem mq_sletters {M N : mm_M} {nt nn : Nat} {cnt oc n5 : Int32} (hS : mq_S M N) (hf : M.1 1 4 = N.1 84 13) (hlc : mq_lc nt nn cnt oc M N) (hfr : mq_fr M N) (hnt : nt ≤ 6) (hnt0 : 1 ≤ nt) (ho : 1 ≤ oc.toInt) (ho2 : oc.toInt ≤ 256) (hn5 : n5 = oc + 2) (hnn : (nn : Int) = oc.toInt + 2) (c0 : 1 ≤ cnt.toInt) (c1 : cnt.toInt < 32768) : mq_2 mq_XE (mf_143 M) (mf_228 n5 N) (fun _ M2 _ N2 => mq_S M2 N2 ∧ M2.1 1 4 = N2.1 84 13 ∧ mq_rem M2 ≤ mq_rem M ∧ mq_la M2 N2) := by
  unfold mf_143 mf_228
  rw [if_pos (show mm_in 0 6 = true from by decide), show (0 : Int32).toNatClampNeg = 0 from rfl]
  have kM : mq_kp [(42, some 12)] M (mm_pi M 42 12 0) := mq_kp_pi mq_kp_refl rfl
  have kN : mq_kp [(84, some 28)] N (mm_pi N 84 28 0) := mq_kp_pi mq_kp_refl rfl
  obtain ⟨hS', hr', f1, f2⟩ := mq_S_kp hS kM kN rfl rfl
  have lim := mq_S_lim hS
  refine mq_2_B (E := mq_XE) (P := fun _ M2 _ N2 => mq_S M2 N2 ∧ M2.1 1 4 = N2.1 84 13 ∧ mq_rem M2 ≤ mq_rem M ∧ mq_la M2 N2) ?_ ?_ (fun _ _ _ q => mq_1_ret q)
  · unfold mf_143_L20 mf_228_L18
    refine mq_2_L4 (I := fun (a : Int64 × Int32 × Nat × Int32) M2 (b : Int32 × Int32 × Int64 × Int32 × Int32) N2 => ∃ K : Nat, a.2.2.2.toInt = K ∧ b.2.2.2.2 = 1 ∧ a.1 = b.2.2.1 ∧ b.1.toInt = ((K + 49) / 50 : Nat) - 1 ∧ b.2.1.toInt = ((50 - K % 50) % 50 : Nat) ∧ (((K + 49) / 50 : Nat) : Int) ≤ cnt.toInt ∧ (K % 50 ≠ 0 → a.2.2.1 < nt ∧ (N2.1 93 (K / 50)).toInt = a.2.2.1) ∧ mq_li nt nn cnt oc K a.1 a.2.1 b.2.2.2.1 M2 N2 ∧ mq_rem M2 ≤ mq_rem M) (J := fun M (_ : Int32 × Int32 × Int64 × Int32 × Int32) N => mq_X M N) (m := fun _ M => (mq_rem M).toNat) ?_ ?_ ⟨0, rfl, rfl, rfl, rfl, rfl, by omega, fun q => absurd rfl q, ⟨hS', by rw [f1, f2]; exact hf, mq_lc_kp hlc hnt kM kN rfl rfl rfl rfl rfl rfl rfl, mq_fr_kp hfr kM kN rfl rfl rfl rfl, ⟨rfl, (by decide : 0 ≤ (0 : Int32).toInt), (by decide : (0 : Int32).toInt ≤ 16384), fun j hj => ?_⟩, by omega, by decide, by decide, by decide, by decide, fun _ => ⟨rfl, by decide⟩⟩, by omega⟩
    · rintro ⟨tm, pw, t4, k⟩ M2 ⟨gr, lf, run, kk, mo⟩ N2 ⟨K, hK, h1, h2, h3, h4, h5, h6, hI, hrm⟩
      dsimp only at hK h1 h2 h3 h4 h6 hI
      subst h1 h2
      have hI0 := hI
      obtain ⟨hS2, hf2, hlc2, hfr2, hla2, hKr, r⟩ := hI
      have lim2 := mq_S_lim hS2
      unfold mf_143_b20 mf_228_b18
      dsimp only
      have ek : (k + 1).toInt = ((K + 1 : Nat) : Int) := by rw [mi_add]; simp only [Int32.reduceToInt]; omega
      rw [if_pos (show k < 1000000 from by rw [Int32.lt_iff_toInt_lt]; simp only [Int32.reduceToInt]; omega), if_neg (show ¬ (1 : Int32) = 0 from by decide), if_pos hS2.2.2.2.2.1]
      have er : (mm_rem k 50).toInt = ((K % 50 : Nat) : Int) := by rw [mi_rem (by omega) (by decide), hK]; simp only [Int32.reduceToInt]; omega
      have ed : (k / 50).toInt = ((K / 50 : Nat) : Int) := by rw [mi_div (by omega) (by decide), hK]; simp only [Int32.reduceToInt]; omega
      -- behind the choice of the table
      have fin : ∀ {t4 : Nat} {gg lf2 : Int32}, gg.toInt = ((K / 50 : Nat) : Int) → lf2.toInt = 50 - ((K % 50 : Nat) : Int) → t4 < nt → (N2.1 93 (K / 50)).toInt = t4 → (((K / 50 : Nat)) : Int) < cnt.toInt → mq_2 (fun M t N => (∃ b, t = .inl b ∧ mq_X M N) ∨ (∃ v, t = .inr v ∧ mq_X M N)) (mf_143_j81 tm pw t4 k M2) (mf_228_j52 n5 gg lf2 tm kk 1 N2) (fun r M5 t N5 => (∃ a2 b2, r = .inl a2 ∧ t = .inl b2 ∧ (∃ K : Nat, a2.2.2.2.toInt = K ∧ b2.2.2.2.2 = 1 ∧ a2.1 = b2.2.2.1 ∧ b2.1.toInt = ((K + 49) / 50 : Nat) - 1 ∧ b2.2.1.toInt = ((50 - K % 50) % 50 : Nat) ∧ (((K + 49) / 50 : Nat) : Int) ≤ cnt.toInt ∧ (K % 50 ≠ 0 → a2.2.2.1 < nt ∧ (N5.1 93 (K / 50)).toInt = a2.2.2.1) ∧ mq_li nt nn cnt oc K a2.1 a2.2.1 b2.2.2.2.1 M5 N5 ∧ mq_rem M5 ≤ mq_rem M) ∧ (mq_rem M5).toNat < (mq_rem M2).toNat) ∨ (∃ u v, r = .inr u ∧ t = .inr v ∧ (mq_S M5 N5 ∧ M5.1 1 4 = N5.1 84 13 ∧ mq_rem M5 ≤ mq_rem M ∧ mq_la M5 N5)) ∨ (∃ u b2, r = .inr u ∧ t = .inl b2 ∧ mq_1 (mm_L (fun s M => mf_228_b18 n5 s.1 s.2.1 s.2.2.1 s.2.2.2.1 s.2.2.2.2 M) b2 N5) (fun v N3 => mq_S M5 N3 ∧ M5.1 1 4 = N3.1 84 13 ∧ mq_rem M5 ≤ mq_rem M ∧ mq_la M5 N3)) ∨ (∃ a2 v, r = .inl a2 ∧ t = .inr v ∧ mq_1 (mm_L (fun s M => mf_143_b20 s.1 s.2.1 s.2.2.1 s.2.2.2 M) a2 M5) (fun u M3 => mq_S M3 N5 ∧ M3.1 1 4 = N5.1 84 13 ∧ mq_rem M3 ≤ mq_rem M ∧ mq_la M3 N5))) := by
        intro t4 gg lf2 q1 q2 q3 q4 q5
        have egn : gg.toNatClampNeg = K / 50 := by rw [mq_cl]; omega
        refine mq_2_mono (mq_2_K (mq_letter (k := k) (lf := lf2) hI0 hnt ho ho2 hn5 hnn q3 (by omega) (by omega) (by rw [egn]; exact q4)) mk_143_j81 mk_228_j52) ?_ (fun _ _ _ q => q.1)
        rintro r M5 t N5 ⟨⟨tm2, pw2, kk2, rfl, rfl, i1, i2⟩ | ⟨rfl, ⟨a, b, c, d, rfl⟩, i1, i2, i3, i4⟩, k1, k2⟩
        · refine .inl ⟨_, _, rfl, rfl, ⟨K + 1, ek, rfl, rfl, ?_, ?_, ?_, ?_, i1, by omega⟩, ?_⟩
          · dsimp only; omega
          · dsimp only
            rw [mi_add]; simp only [Int32.reduceToInt]; omega
          · omega
          · intro q
            dsimp only
            have : (K + 1) / 50 = K / 50 := by omega
            rw [this, (k2 93 _ rfl).1]
            exact ⟨q3, q4⟩
          · have := mq_S_lim i1.1
            omega
        · refine .inr (.inr (.inl ⟨_, _, rfl, rfl, ?_⟩))
          rw [mm_L_eq]
          exact mq_1_ret ⟨i1, i2, by omega, i4⟩
      by_cases c : K % 50 = 0
      · rw [if_pos (show mm_rem k 50 = 0 from Int32.toInt_inj.mp (by rw [er, c]; rfl))]
        have hl0 : lf = 0 := Int32.toInt_inj.mp (by rw [h4, c]; rfl)
        rw [if_pos hl0]
        have hg1 : (gr + 1).toInt = ((K / 50 : Nat) : Int) := by rw [mi_add]; simp only [Int32.reduceToInt]; omega
        have eg : k / 50 = gr + 1 := Int32.toInt_inj.mp (by rw [ed, hg1])
        unfold mf_228_j40
        rw [hlc2.1, hlc2.2.1]
        by_cases d : ((K / 50 : Nat) : Int) < cnt.toInt
        · rw [if_pos (show k / 50 < cnt from by rw [Int32.lt_iff_toInt_lt, ed]; exact d), if_pos (show k / 50 < 1601 from by rw [Int32.lt_iff_toInt_lt, ed]; simp only [Int32.reduceToInt]; omega), if_neg (show ¬ gr + 1 = cnt from fun q => by rw [← q, hg1] at d; omega)]
          unfold mf_143_j64
          rw [mq_27, mq_Bs, if_pos (mq_inr (by omega) (by omega))]
          have ekn : (k / 50).toNatClampNeg = K / 50 := by rw [mq_cl]; omega
          obtain ⟨s1, s2, s3⟩ := hlc2.2.2.2.1 (K / 50) (by omega)
          have s4 := s3 (by omega)
          have ent : (Int32.ofNat nt).toInt = nt := Int32.toInt_ofNat_of_lt (by omega)
          rw [ekn, s4, if_pos (mq_inr s1 (by omega))]
          exact fin hg1 (by rw [c]; rfl) (by rw [mq_cl]; omega) (by rw [mq_cl]; omega) d
        · rw [if_neg (show ¬ k / 50 < cnt from by rw [Int32.lt_iff_toInt_lt, ed]; exact d), if_pos (show gr + 1 = cnt from Int32.toInt_inj.mp (by rw [hg1]; omega))]
          unfold mf_143_j64
          rw [mq_27t, mq_Bt, mq_190, mq_Bs]
          unfold mf_228_j52
          rw [if_neg (show ¬ (mm_pi N2 84 7 1).1 84 7 = 0 from (by decide : ¬ (1 : Int32) = 0))]
          obtain ⟨t, N3, e, hx⟩ := mq_l77d (v1 := n5) (v2 := gr + 1) (v3 := 50 + (-1)) (v4 := tm) (v6 := kk) (v7 := 1) (s := 0) (mq_X_th (mq_S_bad hS2))
          rw [e]
          exact mq_2_thr hx
      · rw [if_neg (show ¬ mm_rem k 50 = 0 from fun q => c (by rw [q] at er; simp only [Int32.reduceToInt] at er; omega))]
        have hl0 : ¬ lf = 0 := fun q => by rw [q] at h4; simp only [Int32.reduceToInt] at h4; omega
        rw [if_neg hl0]
        unfold mf_228_j40
        have hg1 : gr.toInt = ((K / 50 : Nat) : Int) := by omega
        rw [hlc2.2.1, if_neg (show ¬ gr = cnt from fun q => by rw [← q] at h5; omega)]
        obtain ⟨q1, q2⟩ := h6 c
        exact fin hg1 (by omega) q1 q2 (by omega)
    · intro M2 b N2 hx
      exact mq_xd hx (fun z => md_228_L18 z mq_ob_refl)
    · have hj : (j : Int) < (0 : Int32).toInt := hj
      simp only [Int32.reduceToInt] at hj
      omega
  · rintro r M2 t N2 q
    rcases r with r | r <;> exact mq_2_ret q
/-- the tables, one behind the other -/
theorem mq_tables {M N : mm_M} {nt nn : Nat} {n oc v1 v2 : Int32} (hS : mq_S M N) (hf : M.1 1 4 = N.1 84 13) (hnt : n.toInt = nt) (h6 : nt ≤ 6) (hoc : M.1 42 9 = oc) (ho : 1 ≤ oc.toInt) (ho2 : oc.toInt ≤ 256) (hnn : (nn : Int) = oc.toInt + 2) (h29 : N.1 84 29 = n) : mq_2 mq_XE (mf_138_L72 n 0 M) (mf_224_L132 v1 v2 oc 0 N) (fun _ M2 _ N2 => mq_S M2 N2 ∧ M2.1 1 4 = N2.1 84 13 ∧ mq_rem M2 ≤ mq_rem M ∧ ∀ t, t < nt → ∃ f, mq_TC (50 + 5 * t) f nn M2 ∧ mq_TR t f nn N2 ∧ ∀ s, s < nn → f s ≤ 20) := by
  unfold mf_138_L72 mf_224_L132
  have e5 : (oc + 2).toInt = nn := by rw [mi_add]; simp only [Int32.reduceToInt]; omega
  refine mq_2_L (I := fun (a : Int32) M2 (b : Int32) N2 => a = b ∧ ∃ k : Nat, a.toInt = k ∧ k ≤ nt ∧ mq_S M2 N2 ∧ M2.1 1 4 = N2.1 84 13 ∧ mq_rem M2 ≤ mq_rem M ∧ M2.1 42 9 = oc ∧ N2.1 84 29 = n ∧ ∀ t, t < k → ∃ f, mq_TC (50 + 5 * t) f nn M2 ∧ mq_TR t f nn N2 ∧ ∀ s, s < nn → f s ≤ 20) (J := fun M (_ : Int32) N => mq_X M N) (m := fun (a : Int32) _ => ((nt : Int) - a.toInt).toNat) ?_ ?_ ⟨rfl, 0, rfl, by omega, hS, hf, Int.le_refl _, hoc, h29, fun t h => by omega⟩
  · rintro a M2 b N2 ⟨rfl, k, hk, hk2, hS2, hf2, hr2, ho3, h29, hT⟩
    unfold mf_138_b72 mf_224_b132
    rw [h29]
    by_cases c : a < n
    · rw [if_pos c, if_pos c, if_pos hS2.2.2.2.2.1]
      rw [Int32.lt_iff_toInt_lt, hnt, hk] at c
      have ean : a.toNatClampNeg = k := by rw [mq_cl]; omega
      have e1 : (a + 1).toInt = ((k + 1 : Nat) : Int) := by rw [mi_add]; simp only [Int32.reduceToInt]; omega
      rw [if_pos (mq_inr (by omega) (by omega)), ean, if_pos (show k < 6 from by omega), mq_tabeq (by omega)]
      refine mq_2_B (mq_2_K (mq_table (t := k) (n := nn) (tt := a) (nn := oc + 2) (oc := oc) hS2 hf2 (by omega) hk ho3 rfl e5 (by omega)) mk_142 mk_227) ?_ ?_
      · rintro _ M3 _ N3 ⟨⟨hS3, hf3, hr3, hT3, hout⟩, k1, k2⟩
        have wz : ∀ q i, (q < 50 + 5 * k ∨ 50 + 5 * k + 4 < q) → 5 ≤ q → M3.1 q i = M2.1 q i := by
          intro q i hq hq2
          refine (k1 q i ?_).1
          simp [mq_ws, mw_142]
          omega
        refine mq_2_ret (.inl ⟨_, _, rfl, rfl, ⟨rfl, k + 1, e1, by omega, hS3, hf3, by omega, ?_, ?_, ?_⟩, by omega⟩)
        · rw [wz 42 9 (by omega) (by omega)]; exact ho3
        · rw [(k2 84 29 rfl).1]; exact h29
        · intro t ht
          by_cases q : t = k
          · subst q; exact hT3
          · obtain ⟨f, g1, g2, g3⟩ := hT t (by omega)
            refine ⟨f, mq_TC_of g1 ?_ ?_ ?_ ?_, mq_TR_of g2 ?_, g3⟩
            · exact wz _ _ (by omega) (by omega)
            · exact wz _ _ (by omega) (by omega)
            · exact fun i => wz _ _ (by omega) (by omega)
            · exact fun i => wz _ _ (by omega) (by omega)
            · exact fun i h1 h2 => hout i (by omega)
      · rintro M3 b N3 ⟨hx, _, _⟩
        exact mq_1_ret (.inl ⟨_, rfl, hx⟩)
    · rw [if_neg c, if_neg c]
      rw [Int32.lt_iff_toInt_lt, hnt, hk] at c
      have : k = nt := by omega
      subst this
      exact mq_2_ret (.inr ⟨_, _, rfl, rfl, hS2, hf2, hr2, hT⟩)
  · intro M2 b N2 hx
    exact mq_xd hx (fun z => md_224_L132 z mq_ob_refl)
