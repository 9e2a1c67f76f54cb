/-! BLOCKS: codes of its own, set -/
theorem mq_cp1 {M : mm_M} {s d : Nat} {a b c : Int32} {q j : Nat} (h : q ≠ d) : (mm_cpM M s a d b c).1 q j = M.1 q j := by
  show (if q = d then _ else M.1 q j) = _
  rw [if_neg h]
theorem mq_cp2 {M : mm_M} {s d : Nat} {a b c : Int32} {j : Nat} (h1 : b.toNatClampNeg ≤ j) (h2 : j < b.toNatClampNeg + c.toNatClampNeg) : (mm_cpM M s a d b c).1 d j = M.1 s (a.toNatClampNeg + (j - b.toNatClampNeg)) := by
  show (if d = d then va_cpy (M.1 s) (M.1 d) a.toNatClampNeg b.toNatClampNeg c.toNatClampNeg j else M.1 d j) = _
  rw [if_pos rfl]
  unfold va_cpy
  rw [if_pos ⟨h1, h2⟩]
theorem mq_L172 {N : mm_M} {n : Nat} (hn : (N.1 84 20).toInt = n) (h : n ≤ 600) : mq_1 (mf_206_L172 0 N) (fun _ N2 => (∀ s, s < n → N2.1 87 s = N.1 90 s) ∧ mq_kp [(87, none)] N N2) := by
  unfold mf_206_L172
  refine mq_1_L (I := fun (a : Int32) N2 => ∃ k : Nat, k ≤ n ∧ a.toInt = k ∧ (∀ s, s < k → N2.1 87 s = N.1 90 s) ∧ mq_kp [(87, none)] N N2) (m := fun (a : Int32) _ => ((n : Int) - a.toInt).toNat) ?_ ⟨0, by omega, rfl, fun s h => by omega, mq_kp_refl⟩
  rintro x N2 ⟨k, hk, hx, hv, hkp⟩
  unfold mf_206_b172
  rw [(hkp 84 20 rfl).1]
  refine mq_1_ite (fun c => ?_) (fun c => ?_)
  · rw [Int32.lt_iff_toInt_lt, hn] at c
    have e1 : (x + 1).toInt = ((k + 1 : Nat) : Int) := by rw [mi_add]; simp only [Int32.reduceToInt]; omega
    have exn : x.toNatClampNeg = k := by rw [mq_cl]; omega
    rw [if_pos (mq_inr (by omega) (by omega)), if_pos (mq_inr (by omega) (by omega)), exn, (hkp 90 k rfl).1]
    refine mq_1_ret (.inl ⟨_, rfl, ⟨k + 1, by omega, e1, ?_, mq_kp_pi hkp rfl⟩, by omega⟩)
    intro s hs
    by_cases q : s = k
    · subst q; rw [mq_ps]
    · rw [mq_pj q]; exact hv s (by omega)
  · rw [Int32.lt_iff_toInt_lt, hn] at c
    have : k = n := by omega
    subst this
    exact mq_1_ret (.inr ⟨_, rfl, hv, hkp⟩)
theorem mq_L200 {N : mm_M} {n m : Nat} (hn : (N.1 84 20).toInt = n) (hm : (N.1 84 21).toInt = m) (h : n ≤ 300) (h2 : m ≤ 300) : mq_1 (mf_206_L200 0 N) (fun _ N2 => (∀ s, s < m → N2.1 87 (300 + s) = N.1 90 (n + s)) ∧ (∀ s, s < 300 → N2.1 87 s = N.1 87 s) ∧ mq_kp [(87, none)] N N2) := by
  unfold mf_206_L200
  refine mq_1_L (I := fun (a : Int32) N2 => ∃ k : Nat, k ≤ m ∧ a.toInt = k ∧ (∀ s, s < k → N2.1 87 (300 + s) = N.1 90 (n + s)) ∧ (∀ s, s < 300 → N2.1 87 s = N.1 87 s) ∧ mq_kp [(87, none)] N N2) (m := fun (a : Int32) _ => ((m : Int) - a.toInt).toNat) ?_ ⟨0, by omega, rfl, fun s h => by omega, fun _ _ => rfl, mq_kp_refl⟩
  rintro x N2 ⟨k, hk, hx, hv, hl, hkp⟩
  unfold mf_206_b200
  rw [(hkp 84 20 rfl).1, (hkp 84 21 rfl).1]
  refine mq_1_ite (fun c => ?_) (fun c => ?_)
  · rw [Int32.lt_iff_toInt_lt, hm] at c
    have e1 : (x + 1).toInt = ((k + 1 : Nat) : Int) := by rw [mi_add]; simp only [Int32.reduceToInt]; omega
    have e2 : (N.1 84 20 + x).toInt = ((n + k : Nat) : Int) := by rw [mi_add, hn]; omega
    have e3 : ((300 : Int32) + x).toInt = ((300 + k : Nat) : Int) := by rw [mi_add]; simp only [Int32.reduceToInt]; omega
    have e2n : (N.1 84 20 + x).toNatClampNeg = n + k := by rw [mq_cl]; omega
    have e3n : ((300 : Int32) + x).toNatClampNeg = 300 + k := by rw [mq_cl]; omega
    rw [if_pos (mq_inr (by omega) (by omega)), if_pos (mq_inr (by omega) (by omega)), e2n, e3n, (hkp 90 _ rfl).1]
    refine mq_1_ret (.inl ⟨_, rfl, ⟨k + 1, by omega, e1, ?_, ?_, mq_kp_pi hkp rfl⟩, by omega⟩)
    · intro s hs
      by_cases q : s = k
      · subst q; rw [mq_ps]
      · rw [mq_pj (by omega)]; exact hv s (by omega)
    · intro s hs
      rw [mq_pj (by omega)]; exact hl s hs
  · rw [Int32.lt_iff_toInt_lt, hm] at c
    have : k = m := by omega
    subst this
    exact mq_1_ret (.inr ⟨_, rfl, hv, hl, hkp⟩)
theorem mq_set {M N : mm_M} {nl nd : Nat} (hS : mq_S M N) (hf : M.1 1 4 = N.1 84 13) (c8 : (M.1 16 8).toInt = nl) (c9 : (M.1 16 9).toInt = nd) (d20 : N.1 84 20 = M.1 16 8) (d21 : N.1 84 21 = M.1 16 9) (hl0 : 257 ≤ nl) (hl : nl ≤ 286) (hd0 : 1 ≤ nd) (hd : nd ≤ 30) (hv : ∀ j : Nat, j < nl + nd → M.1 32 j = N.1 90 j ∧ 0 ≤ (M.1 32 j).toInt ∧ (M.1 32 j).toInt ≤ 15) : mq_2 mq_XE (mf_85 M) (mm_B (mf_206_L172 0 N) (fun _ M3 => mm_B (mf_206_L200 0 M3) (fun _ M7 => mf_206_j235 M7))) (fun _ M2 _ N2 => mq_S M2 N2 ∧ M2.1 1 4 = N2.1 84 13 ∧ mq_rem M2 = mq_rem M ∧ ∃ f0 f1, mq_tabs nl nd f0 f1 M2 N2) := by
  have n20 : (N.1 84 20).toInt = nl := by rw [d20]; exact c8
  have n21 : (N.1 84 21).toInt = nd := by rw [d21]; exact c9
  have e8 : (M.1 16 8).toNatClampNeg = nl := by rw [mq_cl]; omega
  have e9 : (M.1 16 9).toNatClampNeg = nd := by rw [mq_cl]; omega
  have z8 : ¬ M.1 16 8 < 0 := by rw [Int32.lt_iff_toInt_lt, c8]; simp only [Int32.reduceToInt]; omega
  have z9 : ¬ M.1 16 9 < 0 := by rw [Int32.lt_iff_toInt_lt, c9]; simp only [Int32.reduceToInt]; omega
  have z0 : (0 : Int32).toNatClampNeg = 0 := rfl
  -- the two tables' lengths
  generalize hf0 : (fun s => (M.1 32 s).toInt.toNat) = f0
  generalize hf1 : (fun s => (M.1 32 (nl + s)).toInt.toNat) = f1
  have v0 : ∀ s, s < nl → (M.1 32 s).toInt = f0 s ∧ f0 s ≤ 20 := by
    intro s hs
    obtain ⟨_, q2, q3⟩ := hv s (by omega)
    rw [← hf0]; dsimp only; omega
  have v1 : ∀ s, s < nd → (M.1 32 (nl + s)).toInt = f1 s ∧ f1 s ≤ 20 := by
    intro s hs
    obtain ⟨_, q2, q3⟩ := hv (nl + s) (by omega)
    rw [← hf1]; dsimp only; omega
  -- the reference's two loops
  refine mq_2_Br (mq_L172 n20 (by omega)) ?_
  rintro _ N1 ⟨r1, k1⟩
  refine mq_2_Br (mq_L200 (n := nl) (m := nd) (by rw [(k1 84 20 rfl).1]; exact n20) (by rw [(k1 84 21 rfl).1]; exact n21) (by omega) (by omega)) ?_
  rintro _ N2 ⟨r2, r3, k2⟩
  have kN : mq_kp [(87, none)] N N2 := mq_kp_trans k1 k2
  have L0 : ∀ s, s < nl → (N2.1 87 (300 * 0 + s)).toInt = f0 s := by
    intro s hs
    rw [Nat.mul_zero, Nat.zero_add, r3 s (by omega), r1 s hs, ← (hv s (by omega)).1]; exact (v0 s hs).1
  have L1 : ∀ s, s < nd → (N2.1 87 (300 * 1 + s)).toInt = f1 s := by
    intro s hs
    rw [Nat.mul_one, r2 s hs, (k1 90 _ rfl).1, ← (hv (nl + s) (by omega)).1]; exact (v1 s hs).1
  have m20 : (N2.1 84 20).toInt = nl := by rw [(kN 84 20 rfl).1]; exact n20
  have m21 : (N2.1 84 21).toInt = nd := by rw [(kN 84 21 rfl).1]; exact n21
  -- the class's tables
  unfold mf_85
  have ok1 : mm_cpok 0 0 (M.1 16 8) 320 288 = true := by
    unfold mm_cpok
    rw [e8, z0]
    simp [z8]
    omega
  rw [if_pos ok1, mq_cp1 (show 16 ≠ 18 from by decide), mq_cp1 (show 16 ≠ 18 from by decide)]
  have ok2 : mm_cpok (M.1 16 8) 0 (M.1 16 9) 320 32 = true := by
    unfold mm_cpok
    rw [e8, e9, z0]
    simp [z8, z9]
    omega
  rw [if_pos ok2, mq_cp1 (show 16 ≠ 23 from by decide), mq_cp1 (show 16 ≠ 18 from by decide)]
  generalize hM1 : mm_cpM (mm_cpM M 32 0 18 0 (M.1 16 8)) 32 (M.1 16 8) 23 0 (M.1 16 9) = M1
  have kM1 : mq_kp [(18, none), (23, none)] M M1 := by
    rw [← hM1]; exact mq_kp_cp (mq_kp_cp mq_kp_refl rfl) rfl
  have p0 : ∀ s, s < nl → M1.1 18 s = M.1 32 s := by
    intro s hs
    rw [← hM1, mq_cp1 (by decide), mq_cp2 (by rw [z0]; omega) (by rw [z0, e8]; omega), z0, Nat.zero_add, Nat.sub_zero]
  have p1 : ∀ s, s < nd → M1.1 23 s = M.1 32 (nl + s) := by
    intro s hs
    rw [← hM1, mq_cp2 (by rw [z0]; omega) (by rw [z0, e9]; omega), mq_cp1 (by decide), z0, e8]
    congr 1
  refine mq_2_Bl (mq_1_K (mq_make (p := 17) (cap := 288) (n := nl) (f := f0) (by omega) (by omega) (by omega) c8 (fun s hs => by rw [p0 s hs]; exact (v0 s hs).1) (fun s hs => (v0 s hs).2)) mk_99) ?_
  rintro _ M2 ⟨hC0, k3⟩
  rw [(k3 16 9 rfl).1, (kM1 16 9 rfl).1]
  refine mq_2_Bl (mq_1_K (mq_make (p := 22) (cap := 32) (n := nd) (f := f1) (by omega) (by omega) (by omega) c9 (fun s hs => by rw [(k3 23 s rfl).1, p1 s hs]; exact (v1 s hs).1) (fun s hs => (v1 s hs).2)) mk_99) ?_
  rintro _ M3 ⟨hC1, k4⟩
  have hC0' : mq_TC 17 f0 nl M3 := mq_TC_of hC0 (k4 17 4 rfl).1 (k4 17 5 rfl).1 (fun i => (k4 20 i rfl).1) (fun i => (k4 19 i rfl).1)
  have kM : mq_kp [(18, none), (23, none), (19, none), (20, none), (21, none), (17, some 4), (17, some 5), (24, none), (25, none), (26, none), (22, some 4), (22, some 5)] M M3 := mq_kp_trans (mq_kp_trans (mq_kp_sub kM1 rfl) (mq_kp_sub k3 rfl)) (mq_kp_sub k4 rfl)
  obtain ⟨hS3, hr3, q14, q13⟩ := mq_S_kp hS kM kN rfl rfl
  have hf3 : M3.1 1 4 = N2.1 84 13 := by rw [q14, q13]; exact hf
  have e256 : M3.1 18 (256 : Int32).toNatClampNeg = M.1 32 256 := by
    show M3.1 18 256 = _
    rw [(k4 18 256 rfl).1, (k3 18 256 rfl).1, p0 256 (by omega)]
  have f256 : N2.1 90 (256 : Int32).toNatClampNeg = M.1 32 256 := by
    show N2.1 90 256 = _
    rw [(kN 90 256 rfl).1, (hv 256 (by omega)).1]
  unfold mf_206_j235
  rw [if_pos (show mm_in 256 288 = true from by decide), if_pos (show mm_in 256 640 = true from by decide), e256, f256]
  -- wrong: the reference assigns all the same
  have bad : ∀ {N4 : mm_M}, N4 = N2 → mq_2 mq_XE (some (Sum.inr 0, mm_th M3) : mm_O Unit) (mf_206_j272 N4) (fun _ M2 _ N2 => mq_S M2 N2 ∧ M2.1 1 4 = N2.1 84 13 ∧ mq_rem M2 = mq_rem M ∧ ∃ f0 f1, mq_tabs nl nd f0 f1 M2 N2) := by
    rintro N4 rfl
    unfold mf_206_j272
    rw [mq_190, mq_Bs]
    have hx := mq_X_th (mq_S_bad hS3)
    obtain ⟨t, N5, e, g⟩ := md_206_j276 (A := mm_pi N4 84 7 1) (N := mm_pi N4 84 7 1) (a := nl) (b := nd) mq_ob_refl m20 m21 (by omega) (by omega)
    rw [e]
    exact mq_2_thr (mq_X_ob hx g)
  obtain ⟨ra, ea, ha⟩ := mq_full (cap := 288) hC0'
  obtain ⟨rb, eb, hb⟩ := mq_full (cap := 32) hC1
  obtain ⟨rc, ec, hc⟩ := mq_fit (t := 0) (n := nl) (f := f0) (tt := 0) (nn := N2.1 84 20) (lk := 0) (N := N2) (by omega) (by omega) rfl m20 L0 (fun s hs => (v0 s hs).2)
  obtain ⟨rd, ed, hd'⟩ := mq_fit (t := 1) (n := nd) (f := f1) (tt := 1) (nn := N2.1 84 21) (lk := 1) (N := N2) (by omega) (by omega) rfl m21 L1 (fun s hs => (v1 s hs).2)
  unfold mf_85_j84
  by_cases w : M.1 32 256 = 0
  · rw [if_pos w, if_pos w, mq_27t, mq_Bt]
    exact bad rfl
  · rw [if_neg w, if_neg w, mq_27, mq_Bs, ea, mq_Bs, ec, mq_Bs]
    unfold mf_85_j102
    rcases ha with ⟨rfl, ha⟩ | ⟨rfl, ha⟩
    · rcases hc with ⟨rfl, hc⟩ | ⟨rfl, hc⟩
      · rw [if_neg (show ¬ (1 : Int32) = 0 from by decide), if_neg (show ¬ (1 : Int32) = 0 from by decide), mq_27, mq_Bs, eb, mq_Bs, ed, mq_Bs]
        have good : mq_2 mq_XE (mf_85_j129 M3) (mf_206_j276 N2) (fun _ M2 _ N2 => mq_S M2 N2 ∧ M2.1 1 4 = N2.1 84 13 ∧ mq_rem M2 = mq_rem M ∧ ∃ f0 f1, mq_tabs nl nd f0 f1 M2 N2) := by
          have e129 : mf_85_j129 M3 = some (.inl (), M3) := rfl
          rw [e129]
          unfold mf_206_j276
          refine mq_2_Br (mq_1_K (mq_assign (t := 0) (n := nl) (f := f0) (by omega) (by omega) rfl m20 L0 (fun s hs => (v0 s hs).2)) mk_199) ?_
          rintro _ N4 ⟨⟨hR0, x4⟩, k5⟩
          refine mq_2_Br (mq_1_K (mq_assign (t := 1) (n := nd) (f := f1) (by omega) (by omega) rfl (by rw [(k5 84 21 rfl).1]; exact m21) (fun s hs => by rw [x4 87 _ (.inl (by decide))]; exact L1 s hs) (fun s hs => (v1 s hs).2)) mk_199) ?_
          rintro _ N5 ⟨⟨hR1, x5⟩, k6⟩
          have kN5 : mq_kp [(88, none)] N2 N5 := mq_kp_trans (mq_kp_sub k5 rfl) (mq_kp_sub k6 rfl)
          obtain ⟨hS5, hr5, q5, q6⟩ := mq_S_kp (w := []) hS3 mq_kp_refl kN5 rfl rfl
          refine mq_2_ret ⟨hS5, ?_, hr3, f0, f1, hC0', hC1, mq_TR_of hR0 (fun i h1 h2 => ⟨x5 87 i (.inl (by decide)), x5 88 i (.inr (.inl (by omega)))⟩), hR1, ?_, ?_, by omega, by omega, fun s hs => (v0 s hs).2, fun s hs => (v1 s hs).2⟩
          · rw [q6]; exact hf3
          · rw [(kN5 84 20 rfl).1]; exact m20
          · rw [(kN5 84 21 rfl).1]; exact m21
        rcases hb with ⟨rfl, hb⟩ | ⟨rfl, hb⟩
        · rw [if_neg (show ¬ (1 : Int32) = 0 from by decide)]
          rcases hd' with ⟨rfl, hd'⟩ | ⟨rfl, hd'⟩
          · rw [if_neg (show ¬ (1 : Int32) = 0 from by decide)]; exact good
          · exact absurd (hb.elim .inl (fun q => .inr (.inl q))) hd'
        · rw [if_pos (show (0 : Int32) = 0 from rfl)]
          unfold mf_101
          by_cases u : mc_us f1 nd = 0
          · rw [if_pos (show M3.1 22 4 = 0 from Int32.toInt_inj.mp (by rw [hC1.1, u]; rfl)), mq_Bs, if_neg (show ¬ (1 : Int32) = 0 from by decide)]
            rcases hd' with ⟨rfl, hd'⟩ | ⟨rfl, hd'⟩
            · rw [if_neg (show ¬ (1 : Int32) = 0 from by decide)]; exact good
            · exact absurd (.inr (.inr ⟨by decide, u⟩)) hd'
          · rw [if_neg (show ¬ M3.1 22 4 = 0 from fun q => u (by have := congrArg Int32.toInt q; rw [hC1.1] at this; simp only [Int32.reduceToInt] at this; omega)), mq_Bs, if_pos (show (0 : Int32) = 0 from rfl)]
            rcases hd' with ⟨rfl, hd'⟩ | ⟨rfl, hd'⟩
            · exfalso
              rcases hd' with q | q | q
              · exact hb (.inl q)
              · exact hb (.inr q)
              · exact u q.2
            · rw [if_pos (show (0 : Int32) = 0 from rfl)]
              unfold mf_85_j130
              rw [mq_27t, mq_Bt]
              exact bad rfl
      · exact absurd (ha.elim .inl (fun q => .inr (.inl q))) hc
    · rcases hc with ⟨rfl, hc⟩ | ⟨rfl, hc⟩
      · exfalso
        rcases hc with q | q | q
        · exact ha (.inl q)
        · exact ha (.inr q)
        · exact q.1 rfl
      · rw [if_pos (show (0 : Int32) = 0 from rfl), if_pos (show (0 : Int32) = 0 from rfl), mq_27t, mq_Bt]
        exact bad rfl
