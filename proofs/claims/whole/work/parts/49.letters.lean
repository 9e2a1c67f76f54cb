/-! BLOCKS: letters, lengths, distances, in step -/
theorem mq_ws_out {l : List (Nat × Option Nat)} {a b q i : Nat} (h : l.all (fun e => decide (e.1 < a) || decide (b < e.1)) = true) (h1 : a ≤ q) (h2 : q ≤ b) : mq_ws l q i = false := by
  rw [Bool.eq_false_iff]
  intro c
  simp only [mq_ws, List.any_eq_true, Bool.and_eq_true, beq_iff_eq] at c
  obtain ⟨e, he, hq, _⟩ := c
  simp only [List.all_eq_true, Bool.or_eq_true, decide_eq_true_eq] at h
  have := h e he
  omega
def mq_tabs (nl nd : Nat) (f0 f1 : Nat → Nat) (M N : mm_M) : Prop := mq_TC 17 f0 nl M ∧ mq_TC 22 f1 nd M ∧ mq_TR 0 f0 nl N ∧ mq_TR 1 f1 nd N ∧ (N.1 84 20).toInt = nl ∧ (N.1 84 21).toInt = nd ∧ nl ≤ 288 ∧ nd ≤ 32 ∧ (∀ s, s < nl → f0 s ≤ 20) ∧ (∀ s, s < nd → f1 s ≤ 20)
theorem mq_tabs_kp {nl nd : Nat} {f0 f1 : Nat → Nat} {M N M2 N2 : mm_M} {w w2 : List (Nat × Option Nat)} (h : mq_tabs nl nd f0 f1 M N) (k1 : mq_kp w M M2) (k2 : mq_kp w2 N N2) (h1 : w.all (fun e => decide (e.1 < 17) || decide (26 < e.1)) = true) (h2 : w2.all (fun e => decide (e.1 < 87) || decide (88 < e.1)) = true) (h3 : mq_ws w2 84 20 = false) (h4 : mq_ws w2 84 21 = false) : mq_tabs nl nd f0 f1 M2 N2 := by
  obtain ⟨a, b, c, d, e, g, r⟩ := h
  refine ⟨mq_TC_of a ?_ ?_ ?_ ?_, mq_TC_of b ?_ ?_ ?_ ?_, mq_TR_of c ?_, mq_TR_of d ?_, ?_, ?_, r⟩
  · exact (k1 _ _ (mq_ws_out h1 (by decide) (by decide))).1
  · exact (k1 _ _ (mq_ws_out h1 (by decide) (by decide))).1
  · exact fun i => (k1 _ _ (mq_ws_out h1 (by decide) (by decide))).1
  · exact fun i => (k1 _ _ (mq_ws_out h1 (by decide) (by decide))).1
  · exact (k1 _ _ (mq_ws_out h1 (by decide) (by decide))).1
  · exact (k1 _ _ (mq_ws_out h1 (by decide) (by decide))).1
  · exact fun i => (k1 _ _ (mq_ws_out h1 (by decide) (by decide))).1
  · exact fun i => (k1 _ _ (mq_ws_out h1 (by decide) (by decide))).1
  · exact fun i _ _ => ⟨(k2 _ _ (mq_ws_out h2 (by decide) (by decide))).1, (k2 _ _ (mq_ws_out h2 (by decide) (by decide))).1⟩
  · exact fun i _ _ => ⟨(k2 _ _ (mq_ws_out h2 (by decide) (by decide))).1, (k2 _ _ (mq_ws_out h2 (by decide) (by decide))).1⟩
  · rw [(k2 84 20 h3).1]; exact e
  · rw [(k2 84 21 h4).1]; exact g
theorem mq_num0 {N : mm_M} : mf_198 0 N = some (.inl 0, N) := by
  unfold mf_198 mf_198_L5
  rw [mm_L_eq]
  rfl
theorem mi_dd : ∀ j : Fin 26, 0 ≤ ((Int32.ofNat (j.val + 4) / 2) - 1).toInt ∧ ((Int32.ofNat (j.val + 4) / 2) - 1).toInt ≤ 13 ∧ 1 ≤ ((1 : Int32) + mm_shl (2 + mm_rem (Int32.ofNat (j.val + 4)) 2) ((Int32.ofNat (j.val + 4) / 2) - 1)).toInt ∧ ((1 : Int32) + mm_shl (2 + mm_rem (Int32.ofNat (j.val + 4)) 2) ((Int32.ofNat (j.val + 4) / 2) - 1)).toInt + ((2 ^ ((Int32.ofNat (j.val + 4) / 2) - 1).toInt.toNat : Nat) : Int) ≤ 32769 := by decide +kernel
theorem mi_ll : ∀ j : Fin 20, 0 ≤ ((Int32.ofNat (j.val + 265) - 261) / 4).toInt ∧ ((Int32.ofNat (j.val + 265) - 261) / 4).toInt ≤ 5 ∧ 0 ≤ ((3 : Int32) + mm_shl (4 + mm_rem (Int32.ofNat (j.val + 265) - 265) 4) ((Int32.ofNat (j.val + 265) - 261) / 4)).toInt ∧ ((3 : Int32) + mm_shl (4 + mm_rem (Int32.ofNat (j.val + 265) - 265) 4) ((Int32.ofNat (j.val + 265) - 261) / 4)).toInt ≤ 230 := by decide +kernel
theorem mi_ofk {v : Int32} {k : Nat} (h : v.toInt = k) : v = Int32.ofNat k := by
  refine Int32.toInt_inj.mp ?_
  have := mq_hi v
  rw [h, Int32.toInt_ofNat_of_lt (by omega)]
theorem mi_64to32 {v : Int64} (h : mq_n v < 2147483648) : v.toInt32.toInt = mq_n v := by
  rw [Int64.toInt_toInt32, mq_n_int (by omega), mi_bm]; omega
/-- a distance is read, and the bytes are copied -/
theorem mq_dist {M N : mm_M} {nl nd : Nat} {f0 f1 : Nat → Nat} {len win bd k vv : Int32} (hS : mq_S M N) (hf : M.1 1 4 = N.1 84 13) (hT : mq_tabs nl nd f0 f1 M N) (l0 : 0 ≤ len.toInt) (l1 : len.toInt ≤ 1000) (hw : win = bd ∨ (32768 ≤ win.toInt ∧ 32768 ≤ bd.toInt)) : mq_2 mq_XE (mm_B (mf_88 M) (fun r4 M5 => if win < r4 then (mf_86_j85 win k len r4 1 M5) else (mf_86_j85 win k len r4 0 M5))) (mf_209 len bd N) (fun r M2 _ N2 => r = .inl (k + 1) ∧ mq_S M2 N2 ∧ M2.1 1 4 = N2.1 84 13 ∧ mq_rem M2 < mq_rem M) := by
  unfold mf_88 mf_209
  obtain ⟨t1, t2, t3, t4, t5, t6, t7, t8, t9, t10⟩ := hT
  rw [mq_Ba]
  refine mq_2_B (mq_take (p := 22) (cap := 32) (t := 1) (n := nd) (f := f1) (tt := 1) (nn := N.1 84 21) hS hf t2 t4 (by omega) (by omega) t8 (by omega) rfl t6 t10) ?_ ?_
  · rintro v M2 b N2 ⟨rfl, s, s1, s2, s3, hS2, hf2, hr2⟩
    rw [if_pos hS2.2.2.2.2.1]
    have bad : mq_2 mq_XE (mm_B (mf_88_j23 v 1 M2) (fun r4 M5 => if win < r4 then (mf_86_j85 win k len r4 1 M5) else (mf_86_j85 win k len r4 0 M5))) (mm_B (mf_190 N2) (fun _ M3 => mf_209_j27 len bd v M3)) (fun r M2 _ N2 => r = .inl (k + 1) ∧ mq_S M2 N2 ∧ M2.1 1 4 = N2.1 84 13 ∧ mq_rem M2 < mq_rem M) := by
      unfold mf_88_j23
      rw [mq_27t, mq_Bt, mq_Bt, mq_190, mq_Bs]
      obtain ⟨t, N3, e, hx⟩ := mq_xd (mq_S_bad hS2) (fun z => md_209_j27 (v1 := len) (v2 := bd) (v3 := v) z mq_ob_refl)
      rw [e]
      exact mq_2_thr hx
    -- the end: compare and copy
    have fin : ∀ {M3 N3 : mm_M} {d : Int32}, mq_S M3 N3 → M3.1 1 4 = N3.1 84 13 → mq_rem M3 < mq_rem M → 1 ≤ d.toInt → d.toInt ≤ 32768 → mq_2 mq_XE (if win < d then (mf_86_j85 win k len d 1 M3) else (mf_86_j85 win k len d 0 M3)) (if bd < d then mm_B (mf_190 N3) (fun _ M3 => mf_209_j103 len d M3) else mf_209_j103 len d N3) (fun r M2 _ N2 => r = .inl (k + 1) ∧ mq_S M2 N2 ∧ M2.1 1 4 = N2.1 84 13 ∧ mq_rem M2 < mq_rem M) := by
      intro M3 N3 d q1 q2 q3 d1 d2
      have hc : (win < d ↔ bd < d) := by
        rcases hw with e | ⟨e1, e2⟩
        · rw [e]
        · rw [Int32.lt_iff_toInt_lt, Int32.lt_iff_toInt_lt]; omega
      unfold mf_86_j85 mf_209_j103
      by_cases c : bd < d
      · rw [if_pos (hc.mpr c), if_pos c, mq_27t, mq_Bt, mq_190, mq_Bs]
        obtain ⟨t, N4, e, hx⟩ := mq_xd (mq_S_bad q1) (fun z => md_196 (v := len) (d := d.toInt64) (f := 0) z)
        rw [e]
        exact mq_2_thr hx
      · rw [if_neg (fun q => c (hc.mp q)), if_neg c, mq_27, mq_Bs]
        refine mq_2_B (mq_2_K (mq_copy q1 l0 (by omega) (by rw [Int32.toInt_toInt64]; omega) (.inl rfl)) mk_53 mk_196) ?_ (fun _ _ _ q => mq_1_ret q.1)
        rintro _ M4 _ N4 ⟨⟨p1, p2, p3⟩, k1, k2⟩
        exact mq_2_ret ⟨rfl, p1, by rw [(k1 1 4 rfl).1, (k2 84 13 rfl).1]; exact q2, by omega⟩
    by_cases c : 29 < v
    · rw [if_pos c, if_pos c]; exact bad
    · rw [if_neg c, if_neg c]
      rw [Int32.lt_iff_toInt_lt] at c
      simp only [Int32.reduceToInt] at c
      unfold mf_88_j23 mf_209_j27
      rw [mq_27, mq_Bs, if_pos hS2.2.2.2.2.1]
      by_cases d : v < 4
      · rw [if_pos d, if_pos d, mq_Bs]
        unfold mf_209_j49
        rw [if_pos d]
        unfold mf_209_j72
        rw [mq_num0, mq_Bs, if_pos hS2.2.2.2.2.1]
        rw [Int32.lt_iff_toInt_lt] at d
        simp only [Int32.reduceToInt] at d
        have e1 : (v + 1).toInt = s + 1 := by rw [mi_add]; simp only [Int32.reduceToInt]; omega
        have e2 : v + 1 + (0 : Int64).toInt32 = v + 1 := Int32.add_zero _
        rw [e2]
        exact fin hS2 hf2 hr2 (by omega) (by omega)
      · rw [if_neg d, if_neg d]
        unfold mf_209_j49
        rw [if_neg d]
        unfold mf_209_j72
        rw [Int32.lt_iff_toInt_lt] at d
        simp only [Int32.reduceToInt] at d
        have ev := mi_ofk s3
        obtain ⟨a1, a2, a3, a4⟩ := mi_dd ⟨s - 4, by omega⟩
        dsimp only at a1 a2 a3 a4
        rw [show s - 4 + 4 = s from by omega, ← ev] at a1 a2 a3 a4
        rw [mq_Ba]
        refine mq_2_B (mq_2_K (mq_bits hS2 hf2 a1 (by omega)) mk_46 mk_198) ?_ ?_
        · rintro x M3 b N3 ⟨⟨rfl, x1, hS3, hf3, hr3⟩, k1, k2⟩
          rw [mq_Bs, if_pos hS3.2.2.2.2.1]
          have x2 : x.toInt32.toInt = mq_n x := mi_64to32 (Nat.lt_trans x1 (Nat.lt_of_le_of_lt (Nat.pow_le_pow_right (by decide) (show _ ≤ 13 from by omega)) (by decide)))
          have e1 : ((1 : Int32) + mm_shl (2 + mm_rem v 2) (v / 2 - 1) + x.toInt32).toInt = ((1 : Int32) + mm_shl (2 + mm_rem v 2) (v / 2 - 1)).toInt + mq_n x := by rw [mi_add, x2]; omega
          exact fin hS3 hf3 (by omega) (by omega) (by omega)
        · rintro M3 b N3 ⟨hx, _, _⟩
          rw [if_neg (by rw [hx.2.2.2.1]; decide)]
          exact mq_xd hx (fun z => md_209_j103 z mq_ob_refl)
  · rintro M2 b N2 hx
    rw [if_neg (by rw [hx.2.2.2.1]; decide)]
    exact mq_xd hx (fun z => md_209_j27 z mq_ob_refl)
