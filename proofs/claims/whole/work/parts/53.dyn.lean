/-! BLOCKS: codes of its own -/
theorem mq_ws_84 {l : List (Nat × Option Nat)} {i : Nat} (h : l.all (fun e => decide (e.1 < 84) || decide (86 < e.1) || (e.1 == 84 && (match e.2 with | some j => decide (16 ≤ j) | none => false))) = true) (hi : i < 16) : mq_ws l 84 i = false := by
  rw [Bool.eq_false_iff]
  intro c
  simp only [mq_ws, List.any_eq_true, Bool.and_eq_true, beq_iff_eq] at c
  obtain ⟨⟨p, j⟩, he, hq, hj⟩ := c
  simp only [List.all_eq_true, Bool.or_eq_true, Bool.and_eq_true, decide_eq_true_eq, beq_iff_eq] at h
  have := h _ he
  dsimp only at this hq hj
  subst hq
  rcases this with (q | q) | ⟨_, q⟩
  · omega
  · omega
  · cases j with
    | none => cases q
    | some j =>
      simp only [decide_eq_true_eq] at q
      simp only [beq_iff_eq] at hj
      omega
theorem mq_ws_856 {l : List (Nat × Option Nat)} {q i : Nat} (h : l.all (fun e => decide (e.1 < 84) || decide (86 < e.1) || (e.1 == 84 && (match e.2 with | some j => decide (16 ≤ j) | none => false))) = true) (h1 : 85 ≤ q) (h2 : q ≤ 86) : mq_ws l q i = false := by
  rw [Bool.eq_false_iff]
  intro c
  simp only [mq_ws, List.any_eq_true, Bool.and_eq_true, beq_iff_eq] at c
  obtain ⟨⟨p, j⟩, he, hq, hj⟩ := c
  simp only [List.all_eq_true, Bool.or_eq_true, Bool.and_eq_true, decide_eq_true_eq, beq_iff_eq] at h
  have := h _ he
  dsimp only at this hq
  omega
theorem mq_S_kp {M N M2 N2 : mm_M} {w w2 : List (Nat × Option Nat)} (hS : mq_S M N) (k1 : mq_kp w M M2) (k2 : mq_kp w2 N N2) (h1 : w.all (fun e => decide (e.1 < 1) || decide (4 < e.1)) = true) (h2 : w2.all (fun e => decide (e.1 < 84) || decide (86 < e.1) || (e.1 == 84 && (match e.2 with | some j => decide (16 ≤ j) | none => false))) = true) : mq_S M2 N2 ∧ mq_rem M2 = mq_rem M ∧ M2.1 1 4 = M.1 1 4 ∧ N2.1 84 13 = N.1 84 13 := by
  have a : ∀ q i, 1 ≤ q → q ≤ 4 → M2.1 q i = M.1 q i := fun q i x y => (k1 q i (mq_ws_out h1 x y)).1
  have b : ∀ i, i < 16 → N2.1 84 i = N.1 84 i := fun i x => (k2 84 i (mq_ws_84 h2 x)).1
  have c : ∀ q i, 85 ≤ q → q ≤ 86 → N2.1 q i = N.1 q i := fun q i x y => (k2 q i (mq_ws_856 h2 x y)).1
  refine ⟨?_, ?_, a 1 4 (by decide) (by decide), b 13 (by decide)⟩
  · unfold mq_S mq_T mq_U mq_V mq_G mq_H
    rw [a 1 1 (by decide) (by decide), a 1 2 (by decide) (by decide), a 1 3 (by decide) (by decide), a 1 5 (by decide) (by decide), a 1 6 (by decide) (by decide), a 3 1 (by decide) (by decide), a 3 2 (by decide) (by decide), a 3 3 (by decide) (by decide), a 3 4 (by decide) (by decide), a 3 5 (by decide) (by decide), a 3 6 (by decide) (by decide), b 2 (by decide), b 4 (by decide), b 5 (by decide), b 6 (by decide), b 7 (by decide), b 8 (by decide), b 9 (by decide), b 10 (by decide), b 11 (by decide), b 12 (by decide), b 14 (by decide), b 15 (by decide)]
    obtain ⟨⟨t1, t2, t3, t4⟩, ⟨u1, u2, u3, u4⟩, r⟩ := hS
    refine ⟨⟨t1, t2, t3, fun j hj => ?_⟩, ⟨u1, u2, u3, fun j hj => ?_⟩, r⟩
    · rw [a 2 j (by decide) (by decide), c 85 j (by decide) (by decide)]; exact t4 j hj
    · rw [a 4 j (by decide) (by decide), c 86 j (by decide) (by decide)]; exact u4 j hj
  · unfold mq_rem
    rw [a 1 1 (by decide) (by decide), a 1 2 (by decide) (by decide), a 1 6 (by decide) (by decide)]
theorem mq_rowi_bits {f : Nat → Nat} {at_ : Int32} {M N M2 N2 : mm_M} (h : mq_rowi f at_ M N) (hS : mq_S M2 N2) (hf : M2.1 1 4 = N2.1 84 13) (k1 : mq_kp [(1, some 2), (1, some 5), (1, some 6)] M M2) (k2 : mq_kp [(84, some 5), (84, some 7), (84, some 14), (84, some 15)] N N2) : mq_rowi f at_ M2 N2 := by
  obtain ⟨_, _, hC, hR, a0, hv⟩ := h
  refine ⟨hS, hf, mq_TC_of hC (k1 27 4 rfl).1 (k1 27 5 rfl).1 (fun i => (k1 30 i rfl).1) (fun i => (k1 29 i rfl).1), mq_TR_of hR (fun i _ _ => ⟨(k2 87 i rfl).1, (k2 88 i rfl).1⟩), a0, fun j hj => ?_⟩
  rw [(k1 32 j rfl).1, (k2 90 j rfl).1]; exact hv j hj
theorem mq_row {M N : mm_M} {f : Nat → Nat} {all : Int32} (h : mq_rowi f 0 M N) (ha0 : 0 ≤ all.toInt) (ha : all.toInt ≤ 320) (hfl : ∀ s, s < 19 → f s ≤ 20) : mq_2 mq_XE (mf_84_L12 all 0 M) (mf_207_L2 all 0 N) (fun _ M2 _ N2 => mq_rowi f all M2 N2 ∧ mq_rem M2 ≤ mq_rem M) := by
  unfold mf_84_L12 mf_207_L2
  refine mq_2_L (I := fun (a : Int32) M2 (b : Int32) N2 => a = b ∧ a.toInt ≤ all.toInt ∧ mq_rowi f a M2 N2 ∧ mq_rem M2 ≤ mq_rem M) (J := fun M _ N => mq_X M N) (m := fun (a : Int32) _ => (all.toInt - a.toInt).toNat) ?_ ?_ ⟨rfl, ha0, h, Int.le_refl _⟩
  · rintro x M2 b N2 ⟨rfl, hx, hI, hr⟩
    have hI0 := hI
    obtain ⟨hS, hf, hC, hR, a0, hv⟩ := hI
    unfold mf_84_b12 mf_207_b2
    by_cases c : x < all
    · rw [if_pos c, if_pos c, if_pos hS.2.2.2.2.1]
      rw [Int32.lt_iff_toInt_lt] at c
      refine mq_2_B (mq_2_K (mq_take (p := 27) (cap := 19) (t := 2) (n := 19) (f := f) (tt := 2) (nn := 19) hS hf hC hR (by omega) (by omega) (by omega) (by omega) rfl rfl hfl) mk_103 mk_202) ?_ ?_
      · rintro v M3 b N3 ⟨⟨rfl, s, s1, s2, s3, hS3, hf3, hr3⟩, k3, k4⟩
        have hI3 := mq_rowi_bits hI0 hS3 hf3 k3 k4
        have hv3 := hI3.2.2.2.2.2
        rw [if_pos hS3.2.2.2.2.1]
        have post : ∀ {r : Int32 ⊕ Unit} {t : Int32 ⊕ Unit} {M5 N5 : mm_M} {R : Int}, (∃ y, r = .inl y ∧ t = .inl y ∧ mq_rowi f y M5 N5 ∧ y.toInt ≤ all.toInt ∧ x.toInt < y.toInt ∧ mq_rem M5 = R) → R ≤ mq_rem M3 → (∃ a2 b2, r = .inl a2 ∧ t = .inl b2 ∧ (a2 = b2 ∧ a2.toInt ≤ all.toInt ∧ mq_rowi f a2 M5 N5 ∧ mq_rem M5 ≤ mq_rem M) ∧ (all.toInt - a2.toInt).toNat < (all.toInt - x.toInt).toNat) ∨ (∃ u v, r = .inr u ∧ t = .inr v ∧ (mq_rowi f all M5 N5 ∧ mq_rem M5 ≤ mq_rem M)) := by
          rintro r t M5 N5 R ⟨y, rfl, rfl, q1, q2, q3, q4⟩ hR
          exact .inl ⟨y, y, rfl, rfl, ⟨rfl, q2, q1, by omega⟩, by omega⟩
        have lt16 : (v < 16 ↔ s < 16) := by rw [Int32.lt_iff_toInt_lt, s3]; simp only [Int32.reduceToInt]; omega
        have gt15 : (15 < v ↔ ¬ s < 16) := by rw [Int32.lt_iff_toInt_lt, s3]; simp only [Int32.reduceToInt]; omega
        have e16 : (v = 16 ↔ s = 16) := ⟨fun q => by rw [q] at s3; simp only [Int32.reduceToInt] at s3; omega, fun q => Int32.toInt_inj.mp (by rw [s3, q]; rfl)⟩
        have e17 : (v = 17 ↔ s = 17) := ⟨fun q => by rw [q] at s3; simp only [Int32.reduceToInt] at s3; omega, fun q => Int32.toInt_inj.mp (by rw [s3, q]; rfl)⟩
        have e18 : (v = 18 ↔ s = 18) := ⟨fun q => by rw [q] at s3; simp only [Int32.reduceToInt] at s3; omega, fun q => Int32.toInt_inj.mp (by rw [s3, q]; rfl)⟩
        -- a number of times is read
        have tim : ∀ {nb : Int32} {what base : Int32}, 0 ≤ nb.toInt → nb.toInt ≤ 7 → 1 ≤ base.toInt → base.toInt ≤ 11 → 0 ≤ what.toInt → what.toInt ≤ 15 → mq_2 (fun M t N => (∃ b, t = .inl b ∧ mq_X M N) ∨ (∃ v, t = .inr v ∧ mq_X M N)) (mm_B (mf_46 nb M3) (fun r1 M2 => mf_84_j132 all x what (base + r1.toInt32) M2)) (mm_B (mf_198 nb N3) (fun r1 M2 => mf_207_j126 all x what (base + r1.toInt32) M2)) (fun r M5 t N5 => (∃ a2 b2, r = .inl a2 ∧ t = .inl b2 ∧ (a2 = b2 ∧ a2.toInt ≤ all.toInt ∧ mq_rowi f a2 M5 N5 ∧ mq_rem M5 ≤ mq_rem M) ∧ (all.toInt - a2.toInt).toNat < (all.toInt - x.toInt).toNat) ∨ (∃ u v, r = .inr u ∧ t = .inr v ∧ (mq_rowi f all M5 N5 ∧ mq_rem M5 ≤ mq_rem M))) := by
          intro nb what base n0 n1 b0 b1 w0 w1
          refine mq_2_B (mq_2_K (mq_bits hS3 hf3 n0 (by omega)) mk_46 mk_198) ?_ ?_
          · rintro y M4 b N4 ⟨⟨rfl, y1, hS4, hf4, hr4⟩, k5, k6⟩
            have y2 : mq_n y < 128 := Nat.lt_of_lt_of_le y1 (Nat.le_trans (Nat.pow_le_pow_right (by decide) (show _ ≤ 7 from by omega)) (by decide))
            have y3 : y.toInt32.toInt = mq_n y := mi_64to32 (by omega)
            have e1 : (base + y.toInt32).toInt = base.toInt + mq_n y := by rw [mi_add, y3]; omega
            unfold mf_207_j126
            exact mq_2_mono (mq_r132 (mq_rowi_bits hI3 hS4 hf4 k5 k6) ha (by omega) (by omega) hx w0 w1) (fun _ _ _ _ q => post q (by omega)) (fun _ _ _ q => q)
          · rintro M4 b N4 ⟨hx, _, _⟩
            unfold mf_207_j126
            exact mq_r128d hx
        by_cases c16 : s = 16
        · rw [if_pos (e16.mpr c16), if_neg (fun q => by have := lt16.mp q; omega)]
          unfold mf_84_j40 mf_84_j60
          rw [if_pos (e16.mpr c16)]
          by_cases cx : x = 0
          · rw [if_pos cx, if_pos cx, mq_27t, mq_Bt, mq_190, mq_Bs]
            obtain ⟨t, N4, e, hx⟩ := mq_r49d (v1 := all) (v2 := x) (v3 := v) (v4 := 1) (v5 := v) (mq_X_th (mq_S_bad hS3))
            rw [e]
            exact mq_2_thr hx
          · rw [if_neg cx, if_neg cx, mq_27, mq_Bs]
            have cx2 : x.toInt ≠ 0 := fun q => cx (Int32.toInt_inj.mp q)
            have em : (x - 1).toInt = x.toInt - 1 := by rw [mi_sub]; simp only [Int32.reduceToInt]; omega
            obtain ⟨q1, q2, q3⟩ := hv3 (x - 1).toNatClampNeg (by rw [mq_cl]; omega)
            unfold mf_207_j49 mf_207_j80
            rw [if_pos (mq_inr (by omega) (by omega)), if_pos hS3.2.2.2.2.1, if_pos (gt15.mpr (by omega)), if_pos (e16.mpr c16), if_pos (mq_inr (by omega) (by omega)), if_pos (e16.mpr c16), ← q1]
            exact tim (nb := 2) (base := 3) (by decide) (by decide) (by decide) (by decide) q2 q3
        · rw [if_neg (fun q => c16 (e16.mp q))]
          unfold mf_84_j40
          by_cases cl : s < 16
          · rw [if_pos (lt16.mpr cl), if_neg (fun q => c16 (e16.mp q)), if_neg (fun q => by have := e17.mp q; omega), if_neg (fun q => by have := e18.mp q; omega)]
            unfold mf_207_j49
            rw [if_pos hS3.2.2.2.2.1, if_neg (fun q => (gt15.mp q) cl)]
            exact mq_2_mono (mq_r132 hI3 ha (by decide) (by decide) hx (by omega) (by omega)) (fun _ _ _ _ q => post q (by omega)) (fun _ _ _ q => q)
          · rw [if_neg (fun q => cl (lt16.mp q)), if_neg (fun q => c16 (e16.mp q))]
            unfold mf_207_j49 mf_207_j80
            rw [if_pos hS3.2.2.2.2.1, if_pos (gt15.mpr cl), if_neg (fun q => c16 (e16.mp q)), if_neg (fun q => c16 (e16.mp q))]
            by_cases c17 : s = 17
            · rw [if_pos (e17.mpr c17), if_pos (e17.mpr c17)]
              exact tim (nb := 3) (base := 3) (what := 0) (by decide) (by decide) (by decide) (by decide) (by decide) (by decide)
            · rw [if_neg (fun q => c17 (e17.mp q)), if_neg (fun q => c17 (e17.mp q)), if_pos (e18.mpr (by omega))]
              exact tim (nb := 7) (base := 11) (what := 0) (by decide) (by decide) (by decide) (by decide) (by decide) (by decide)
      · rintro M3 b N3 ⟨hx, _, _⟩
        rw [if_neg (by rw [hx.2.2.2.1]; decide)]
        exact mq_r49d hx
    · rw [if_neg c, if_neg c]
      rw [Int32.lt_iff_toInt_lt] at c
      have : x = all := Int32.toInt_inj.mp (by omega)
      subst this
      exact mq_2_ret (.inr ⟨_, _, rfl, rfl, hI0, hr⟩)
  · intro M2 b N2 hx
    exact mq_xd hx (fun z => md_207_L2 z mq_ob_refl)
