/-! FORM 9: the loop of letters -/
def mq_lc (nt nn : Nat) (cnt oc : Int32) (M N : mm_M) : Prop := M.1 42 7 = cnt ∧ N.1 84 30 = cnt ∧ M.1 42 9 = oc ∧ mq_se (Int32.ofNat nt) cnt.toInt.toNat M N ∧ ∀ t, t < nt → ∃ f, mq_TC (50 + 5 * t) f nn M ∧ mq_TR t f nn N ∧ ∀ s, s < nn → f s ≤ 20
theorem mq_lc_kp {nt nn : Nat} {cnt oc : Int32} {M N M2 N2 : mm_M} {w w2 : List (Nat × Option Nat)} (h : mq_lc nt nn cnt oc M N) (hnt : nt ≤ 6) (k1 : mq_kp w M M2) (k2 : mq_kp w2 N N2) (h1 : mq_ws w 42 7 = false) (h2 : mq_ws w 42 9 = false) (h3 : w.all (fun e => decide (e.1 < 45) || decide (45 < e.1)) = true) (h4 : w.all (fun e => decide (e.1 < 50) || decide (79 < e.1)) = true) (h5 : mq_ws w2 84 30 = false) (h6 : w2.all (fun e => decide (e.1 < 93) || decide (93 < e.1)) = true) (h7 : w2.all (fun e => decide (e.1 < 87) || decide (88 < e.1)) = true) : mq_lc nt nn cnt oc M2 N2 := by
  obtain ⟨a, b, c, d, e⟩ := h
  refine ⟨by rw [(k1 42 7 h1).1]; exact a, by rw [(k2 84 30 h5).1]; exact b, by rw [(k1 42 9 h2).1]; exact c, fun i hi => ?_, fun t ht => ?_⟩
  · rw [(k2 93 i (mq_ws_out h6 (by decide) (by decide))).1, (k1 45 i (mq_ws_out h3 (by decide) (by decide))).1]; exact d i hi
  · obtain ⟨f, f1, f2, f3⟩ := e t ht
    refine ⟨f, mq_TC_of f1 ?_ ?_ ?_ ?_, mq_TR_of f2 ?_, f3⟩
    · exact (k1 _ _ (mq_ws_out h4 (by omega) (by omega))).1
    · exact (k1 _ _ (mq_ws_out h4 (by omega) (by omega))).1
    · exact fun i => (k1 _ _ (mq_ws_out h4 (by omega) (by omega))).1
    · exact fun i => (k1 _ _ (mq_ws_out h4 (by omega) (by omega))).1
    · exact fun i _ _ => ⟨(k2 _ _ (mq_ws_out h7 (by decide) (by decide))).1, (k2 _ _ (mq_ws_out h7 (by decide) (by decide))).1⟩
/-- the loop's state -/
def mq_li (nt nn : Nat) (cnt oc : Int32) (K : Nat) (tm : Int64) (pw kk : Int32) (M N : mm_M) : Prop := mq_S M N ∧ M.1 1 4 = N.1 84 13 ∧ mq_lc nt nn cnt oc M N ∧ mq_fr M N ∧ mq_la M N ∧ (K : Int) + mq_rem M ≤ 80007 ∧ 0 ≤ tm.toInt ∧ tm.toInt ≤ 100000 ∧ 0 ≤ kk.toInt ∧ kk.toInt ≤ K ∧ (tm.toInt ≤ 16384 → pw = kk ∧ ((2 ^ pw.toInt.toNat : Nat) : Int) ≤ tm.toInt + 1)
theorem mq_l77d {M N : mm_M} {v1 v2 v3 v6 v7 s : Int32} {v4 : Int64} (hx : mq_X M N) : mq_1 (mf_228_j77 v1 v2 v3 v4 v6 v7 s N) (fun t N => (∃ b, t = .inl b ∧ mq_X M N) ∨ (∃ v, t = .inr v ∧ mq_X M N)) := by
  unfold mf_228_j77
  rw [if_neg (by rw [hx.2.2.2.1]; decide)]
  exact mq_1_ret (.inl ⟨_, rfl, hx⟩)
/-- one letter -/
theorem mq_letter {M N : mm_M} {nt nn K t4 : Nat} {cnt oc n5 gg lf k kk pw : Int32} {tm : Int64} (h : mq_li nt nn cnt oc K tm pw kk M N) (hnt : nt ≤ 6) (ho : 1 ≤ oc.toInt) (ho2 : oc.toInt ≤ 256) (hn5 : n5 = oc + 2) (hnn : (nn : Int) = oc.toInt + 2) (ht4 : t4 < nt) (g0 : 0 ≤ gg.toInt) (g1 : gg.toInt < 32768) (hsel : (N.1 93 gg.toNatClampNeg).toInt = t4) : mq_2 (fun M t N => (∃ b, t = .inl b ∧ mq_X M N) ∨ (∃ v, t = .inr v ∧ mq_X M N)) (mf_143_j81 tm pw t4 k M) (mf_228_j52 n5 gg lf tm kk 1 N) (fun r M2 t N2 => (∃ tm2 pw2 kk2, r = .inl (tm2, pw2, t4, k + 1) ∧ t = .inl (gg, lf + (-1), tm2, kk2, 1) ∧ mq_li nt nn cnt oc (K + 1) tm2 pw2 kk2 M2 N2 ∧ mq_rem M2 < mq_rem M) ∨ (r = .inr (.inl ()) ∧ (∃ a b c d, t = .inl (a, b, c, d, 0)) ∧ mq_S M2 N2 ∧ M2.1 1 4 = N2.1 84 13 ∧ mq_rem M2 ≤ mq_rem M ∧ mq_la M2 N2)) := by
  obtain ⟨hS, hf, hlc, hfr, hla, hK, t0, t1, kk0, kk1, hpw⟩ := h
  obtain ⟨l1, l2, l3, l4, l5⟩ := hlc
  obtain ⟨f, fC, fR, fl⟩ := l5 t4 ht4
  have e5 : n5.toInt = nn := by rw [hn5, mi_add]; simp only [Int32.reduceToInt]; omega
  unfold mf_143_j81 mf_228_j52
  rw [if_pos (show t4 < 6 from by omega), mq_tabeq (by omega), if_pos hS.2.2.2.2.1, if_pos (mq_inr g0 (by omega))]
  refine mq_2_B (mq_2_K (mq_take (p := 50 + 5 * t4) (cap := 258) (t := t4) (n := nn) (f := f) (tt := N.1 93 gg.toNatClampNeg) (nn := n5) hS hf fC fR (by omega) (by omega) (by omega) (by omega) hsel e5 fl) mk_103 mk_202) ?_ ?_
  · rintro v M2 b N2 ⟨⟨rfl, s, s1, s2, s3, hS2, hf2, hr2⟩, k1, k2⟩
    have hlc2 : mq_lc nt nn cnt oc M2 N2 := mq_lc_kp ⟨l1, l2, l3, l4, l5⟩ hnt k1 k2 rfl rfl rfl rfl rfl rfl rfl
    have hfr2 := mq_fr_kp hfr k1 k2 rfl rfl rfl rfl
    have hla2 := mq_la_kp hla k1 k2 rfl rfl rfl rfl
    have lim := mq_S_lim hS2
    unfold mf_228_j77
    rw [if_pos hS2.2.2.2.2.1]
    by_cases c : v < 2
    · rw [if_pos c, if_pos c]
      rw [Int32.lt_iff_toInt_lt] at c
      simp only [Int32.reduceToInt] at c
      have ek : (kk + 1).toInt = kk.toInt + 1 := by rw [mi_add]; simp only [Int32.reduceToInt]; omega
      by_cases d : 16384 < tm
      · rw [if_pos d, if_pos d]
        rw [Int64.lt_iff_toInt_lt] at d
        simp only [Int64.reduceToInt] at d
        refine mq_2_ret (.inl ⟨tm, pw, kk + 1, rfl, by rw [Int64.add_zero], ⟨hS2, hf2, hlc2, hfr2, hla2, by omega, t0, t1, by omega, by omega, fun q => by omega⟩, hr2⟩)
      · rw [if_neg d, if_neg d]
        rw [Int64.lt_iff_toInt_lt] at d
        simp only [Int64.reduceToInt] at d
        obtain ⟨p1, p2⟩ := hpw (by omega)
        subst p1
        have hp14 : pw.toInt ≤ 14 := by
          by_cases q : pw.toInt ≤ 14
          · exact q
          · have : 2 ^ 15 ≤ 2 ^ pw.toInt.toNat := Nat.pow_le_pow_right (by decide) (by omega)
            have : ((2 ^ 15 : Nat) : Int) = 32768 := rfl
            omega
        have ev : (v + 1).toInt = v.toInt + 1 := by rw [mi_add]; simp only [Int32.reduceToInt]; omega
        have e64 : (v + 1).toInt64 = 1 + v.toInt64 := Int64.toInt_inj.mp (by rw [Int32.toInt_toInt64, mj_add, Int32.toInt_toInt64, ev]; simp only [Int64.reduceToInt]; omega)
        have hnv : mq_n (v + 1).toInt64 = s + 1 := by rw [mq_n_i32 (by omega)]; omega
        have hpw14 : 2 ^ pw.toInt.toNat ≤ 2 ^ 14 := Nat.pow_le_pow_right (by decide) (by omega)
        have hm : (s + 1) * 2 ^ pw.toInt.toNat ≤ 2 * 2 ^ pw.toInt.toNat := Nat.mul_le_mul_right _ (by omega)
        have hsh := mq_n_shl (x := (v + 1).toInt64) (k := pw) (by omega) (by omega) (by rw [hnv]; omega)
        rw [hnv] at hsh
        have hm2 : 2 ^ pw.toInt.toNat * (s + 1) ≤ 2 ^ pw.toInt.toNat * 2 := Nat.mul_le_mul_left _ (by omega)
        have hm3 : 2 ^ pw.toInt.toNat * 1 ≤ 2 ^ pw.toInt.toNat * (s + 1) := Nat.mul_le_mul_left _ (by omega)
        have hsi := mq_n_int (x := mm_lshl (v + 1).toInt64 pw) (by rw [hsh]; omega)
        have et : (tm + mm_lshl (v + 1).toInt64 pw).toInt = tm.toInt + ((2 ^ pw.toInt.toNat * (s + 1) : Nat) : Int) := by rw [mj_add, hsi, hsh]; omega
        rw [← e64]
        refine mq_2_ret (.inl ⟨tm + mm_lshl (v + 1).toInt64 pw, pw + 1, pw + 1, rfl, rfl, ⟨hS2, hf2, hlc2, hfr2, hla2, by omega, by omega, by omega, by omega, by omega, fun q => ⟨rfl, ?_⟩⟩, hr2⟩)
        have epn : (pw + 1).toInt.toNat = pw.toInt.toNat + 1 := by omega
        rw [epn, Nat.pow_succ, et]
        omega
    · rw [if_neg c, if_neg c]
      rw [Int32.lt_iff_toInt_lt] at c
      simp only [Int32.reduceToInt] at c
      obtain ⟨f1, f2, f3, f4⟩ := hfr2
      have hoc : M2.1 42 9 = oc := hlc2.2.2.1
      have hf0 := f4 0 (by rw [hoc]; omega)
      rw [if_pos (show mm_in 0 256 = true from by decide), show (0 : Int32).toNatClampNeg = 0 from rfl]
      refine mq_2_B (mq_2_K (mq_addb (b := M2.1 46 0) hS2 hla2 hf0.1 hf0.2.1 hf0.2.2 t0 (by omega)) mk_144 mk_229) ?_ ?_
      · rintro _ M3 _ N3 ⟨⟨hla3, kM, kN⟩, k3, k4⟩
        obtain ⟨hS3, hr3, g3, g4⟩ := mq_S_kp hS2 kM kN rfl rfl
        have hf3 : M3.1 1 4 = N3.1 84 13 := by rw [g3, g4]; exact hf2
        have hlc3 := mq_lc_kp hlc2 hnt kM kN rfl rfl rfl rfl rfl rfl rfl
        have hfr3 := mq_fr_kp ⟨f1, f2, f3, f4⟩ kM kN rfl rfl rfl rfl
        have ho3 : M3.1 42 9 = oc := hlc3.2.2.1
        have eo1 : (oc + 1).toInt = oc.toInt + 1 := by rw [mi_add]; simp only [Int32.reduceToInt]; omega
        have en1 : n5 - 1 = oc + 1 := Int32.toInt_inj.mp (by rw [mi_sub, e5, eo1]; simp only [Int32.reduceToInt]; omega)
        rw [ho3, en1]
        unfold mf_228_j155
        by_cases d : v = oc + 1
        · rw [if_pos d, if_pos d, if_pos rfl]
          exact mq_2_ret (.inr ⟨rfl, ⟨_, _, _, _, rfl⟩, hS3, hf3, by omega, hla3⟩)
        · rw [if_neg d, if_neg d, if_neg (show ¬ (1 : Int32) = 0 from by decide), if_pos hS3.2.2.2.2.1]
          have dv : v.toInt ≠ oc.toInt + 1 := fun q => d (Int32.toInt_inj.mp (by omega))
          have em : (v - 1).toInt = v.toInt - 1 := by rw [mi_sub]; simp only [Int32.reduceToInt]; omega
          refine mq_2_By (mq_tofront hS3 hla3 hfr3 (by omega) (by rw [ho3]; omega)) ?_ ?_
          · rintro r M4 _ N4 ⟨rfl, hla4, hfr4, kM4, kN4⟩
            obtain ⟨hS4, hr4, g5, g6⟩ := mq_S_kp hS3 kM4 kN4 rfl rfl
            refine mq_2_ret (.inl ⟨0, 0, 0, rfl, rfl, ⟨hS4, by rw [g5, g6]; exact hf3, mq_lc_kp hlc3 hnt kM4 kN4 rfl rfl rfl rfl rfl rfl rfl, hfr4, hla4, by omega, by decide, by decide, by decide, by simp only [Int32.reduceToInt]; omega, fun _ => ⟨rfl, by decide⟩⟩, by omega⟩)
          · intro M4 b N4 hx
            exact mq_1_ret (.inl ⟨_, rfl, hx⟩)
      · rintro M3 b N3 ⟨hx, _, _⟩
        unfold mf_228_j155
        refine mq_1_ite (fun _ => mq_1_ite (fun _ => mq_1_ret (.inl ⟨_, rfl, hx⟩)) (fun q => absurd rfl q)) (fun _ => ?_)
        rw [if_neg (show ¬ (1 : Int32) = 0 from by decide), if_neg (show ¬ N3.1 84 7 = 0 from by rw [hx.2.2.2.1]; decide)]
        exact mq_1_ret (.inl ⟨_, rfl, hx⟩)
  · rintro M2 b N2 ⟨hx, _, _⟩
    exact mq_l77d hx
