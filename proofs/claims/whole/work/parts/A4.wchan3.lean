/-! WRITING: CHANCES, the whole -/
def mq_pw (r : Nat) : Nat := 2 ^ (r + 1)
theorem mq_pw_s (r : Nat) : mq_pw (r + 1) = 2 * mq_pw r := by
  unfold mq_pw
  rw [Nat.pow_succ, Nat.mul_comm]
theorem mq_pw_8 {r : Nat} (h : r ≤ 7) : mq_pw r ≤ 256 := Nat.pow_le_pow_right (n := 2) (by decide) (show r + 1 ≤ 8 by omega)
theorem mq_cbyte {M N : mm_M} {v1 v2 x f g : Int32} {st d xx kk s : Nat} {k j : Int32} (h : mq_ce M N st d) (hx : f.toInt = ((2052 + 768 * xx : Nat) : Int)) (hg : g.toInt = ((2244 + 768 * xx : Nat) : Int)) (hxx : xx < 8) (hin : mm_in v2 10000 = true) (hb : ∀ N2, mq_kp mw_282 N N2 → N2.1 85 v2.toNatClampNeg = v1) (hk : k.toInt = kk) (hj : j.toInt = 7 - (s : Int)) (hs : s ≤ 8) (hkk : kk < mq_pw s) (hst : st + (8 - s) ≤ 90000) :
    mq_2 mq_F (mf_171_L108 v1 x f (k, j) M) (mf_283_L114 v2 g (k, j) N) (fun _ M2 _ N2 => ∃ d2, mq_ce M2 N2 (st + (8 - s)) d2) := by
  unfold mf_171_L108 mf_283_L114
  refine mq_2_Lf (I := fun (a : Int32 × Int32) M2 (b : Int32 × Int32) N2 => a = b ∧ ∃ kk r d2 : Nat, s ≤ r ∧ r ≤ 8 ∧ a.1.toInt = kk ∧ a.2.toInt = 7 - (r : Int) ∧ kk < mq_pw r ∧ mq_ce M2 N2 (st + (r - s)) d2 ∧ mq_kp mw_282 N N2) (m := fun a _ => (a.2.toInt + 1).toNat) ?_ ⟨rfl, kk, s, d, Nat.le_refl _, hs, hk, hj, hkk, by rw [Nat.sub_self]; exact h, mq_kp_refl⟩
  rintro ⟨k, j⟩ M2 b N2 ⟨rfl, kk, r, d2, r0, r1, hk, hj, hkk, hc, hkp⟩
  dsimp only at hk hj ⊢
  unfold mf_171_b108 mf_283_b114
  by_cases c : j < 0
  · rw [if_pos c, if_pos c]
    rw [Int32.lt_iff_toInt_lt] at c
    simp only [Int32.reduceToInt] at c
    have : r = 8 := by omega
    subst this
    exact mq_2_ret (.inr ⟨_, _, rfl, rfl, d2, hc⟩)
  · rw [if_neg c, if_neg c, if_pos hin, hb N2 hkp]
    rw [Int32.lt_iff_toInt_lt] at c
    simp only [Int32.reduceToInt] at c
    have hp := mq_pw_8 (r := r) (by omega)
    have e1 : (f + k).toInt = ((2052 + 768 * xx + kk : Nat) : Int) := by rw [mi_add]; omega
    have e2 : (g + k).toInt = ((2244 + 768 * xx + kk : Nat) : Int) := by rw [mi_add]; omega
    have em : mq_mp (2052 + 768 * xx + kk) = 2244 + 768 * xx + kk := by
      unfold mq_mp
      rw [if_neg (by omega), if_neg (by omega), if_neg (by omega), if_neg (by omega), if_neg (by omega)]
      omega
    have hbit := mi_and1 (mm_shr v1 j)
    refine mq_2_Bf (mq_2_Kf (mq_cw (i := 2052 + 768 * xx + kk) hc (by omega) e1 (by rw [em]; exact e2) hbit (by omega)) mk_172 mk_282) ?_
    rintro _ M3 _ N3 ⟨⟨d3, h3⟩, _, k2⟩
    have e3 := mi_2kb (b := mm_shr v1 j &&& 1) hk (by omega) hbit
    obtain ⟨bn, hbn, hb1⟩ : ∃ bn : Nat, (mm_shr v1 j &&& 1).toInt = bn ∧ bn ≤ 1 := by
      rcases hbit with q | q
      · exact ⟨0, by rw [q]; rfl, by omega⟩
      · exact ⟨1, by rw [q]; rfl, by omega⟩
    have e5 : (2 * k + (mm_shr v1 j &&& 1)).toInt = ((2 * kk + bn : Nat) : Int) := by rw [e3, hbn]; rfl
    have e4 := mi_dec (y := j) (Int.not_lt.mp c)
    have e6 : (j + -1).toInt = 7 - ((r + 1 : Nat) : Int) := by rw [e4.1, hj]; clear e3 e5 hbn e1 e2 em; omega
    have e7 : 2 * kk + bn < mq_pw (r + 1) := by
      rw [mq_pw_s r]
      clear e3 e5 hbn e1 e2 em e4 e6
      omega
    have e8 : st + (r + 1 - s) = st + (r - s) + 1 := by clear e3 e5 hbn e1 e2 em e4 e6 e7; omega
    have e9 : s ≤ r + 1 := Nat.le_succ_of_le r0
    have e10 : r + 1 ≤ 8 := by clear e3 e5 hbn e1 e2 em e4 e6 e7 e8; omega
    refine mq_2_ret (.inl ⟨_, _, rfl, rfl, ⟨rfl, 2 * kk + bn, r + 1, d3, e9, e10, e5, e6, e7, ?_, mq_kp_trans hkp k2⟩, e4.2⟩)
    rw [e8]
    exact h3
theorem mq_fill98 {N : mm_M} : mq_1 (mf_283_L27 0 N) (fun _ N2 => (∀ i, i < 14540 → N2.1 98 i = 1024) ∧ mq_kp [(98, none)] N N2) := by
  unfold mf_283_L27
  refine mq_1_L (I := fun (a : Int32) N2 => ∃ k : Nat, k ≤ 14540 ∧ a.toInt = k ∧ (∀ i, i < k → N2.1 98 i = 1024) ∧ mq_kp [(98, none)] N N2) (m := fun (a : Int32) _ => (14540 - a.toInt).toNat) ?_ ⟨0, by omega, rfl, fun i h => absurd h (Nat.not_lt_zero _), mq_kp_refl⟩
  rintro x N2 ⟨k, hk, hx, hv, hkp⟩
  unfold mf_283_b27
  by_cases c : x < 14540
  · rw [if_pos c]
    rw [Int32.lt_iff_toInt_lt] at c
    simp only [Int32.reduceToInt] at c
    have e1 : (x + 1).toInt = ((k + 1 : Nat) : Int) := by rw [mi_add]; simp only [Int32.reduceToInt]; omega
    have exn : x.toNatClampNeg = k := by rw [mq_cl]; omega
    rw [if_pos (mq_inr (by omega) (by omega)), exn]
    refine mq_1_ret (.inl ⟨_, rfl, ⟨k + 1, by omega, e1, fun i hi => ?_, mq_kp_pi hkp rfl⟩, by omega⟩)
    by_cases q : i = k
    · rw [q, mq_ps]
    · rw [mq_pj q]; exact hv i (by omega)
  · rw [if_neg c]
    rw [Int32.lt_iff_toInt_lt] at c
    simp only [Int32.reduceToInt] at c
    have : k = 14540 := by omega
    subst this
    exact mq_1_ret (.inr ⟨_, rfl, hv, hkp⟩)
/-- the digits are put behind the head -/
theorem mq_L172' {N : mm_M} {d : Nat} (hd : (N.1 84 54).toInt = d) (hd1 : d ≤ 12600) (hm : (N.1 84 41).toInt = 13) : mq_1 (mf_283_L172 0 N) (fun _ N2 => (N2.1 84 41).toInt = ((13 + d : Nat) : Int) ∧ (∀ j, j < d → N2.1 100 (13 + j) = N.1 102 j) ∧ (∀ j, j < 13 → N2.1 100 j = N.1 100 j) ∧ mq_kp mw_245 N N2) := by
  unfold mf_283_L172
  refine mq_1_L (I := fun (a : Int32) N2 => ∃ k : Nat, k ≤ d ∧ a.toInt = k ∧ (N2.1 84 41).toInt = ((13 + k : Nat) : Int) ∧ (∀ j, j < k → N2.1 100 (13 + j) = N.1 102 j) ∧ (∀ j, j < 13 → N2.1 100 j = N.1 100 j) ∧ mq_kp mw_245 N N2) (m := fun (a : Int32) _ => ((d : Int) - a.toInt).toNat) ?_ ⟨0, by omega, rfl, by omega, fun i h => absurd h (Nat.not_lt_zero _), fun _ _ => rfl, mq_kp_refl⟩
  rintro x N2 ⟨k, hk, hx, h1, h2, h3, hkp⟩
  unfold mf_283_b172
  rw [(hkp 84 54 rfl).1]
  by_cases c : x < N.1 84 54
  · rw [if_pos c]
    rw [Int32.lt_iff_toInt_lt] at c
    have e1 : (x + 1).toInt = ((k + 1 : Nat) : Int) := by rw [mi_add]; simp only [Int32.reduceToInt]; omega
    have exn : x.toNatClampNeg = k := by rw [mq_cl]; omega
    rw [if_pos (mq_inr (by omega) (by omega)), exn, (hkp 102 k rfl).1]
    have e2 : (N2.1 84 41 + 1).toInt = ((13 + (k + 1) : Nat) : Int) := by rw [mi_add]; simp only [Int32.reduceToInt]; omega
    have e3 : (N2.1 84 41).toNatClampNeg = 13 + k := by rw [mq_cl]; omega
    unfold mf_245
    rw [if_pos (by rw [Int32.lt_iff_toInt_lt]; simp only [Int32.reduceToInt]; omega), if_pos (mq_inr (by omega) (by omega)), mq_Bs, e3]
    refine mq_1_ret (.inl ⟨_, rfl, ⟨k + 1, by omega, e1, e2, fun j hj => ?_, fun j hj => ?_, mq_kp_pi (mq_kp_pi hkp rfl) rfl⟩, by omega⟩)
    · show (mm_pi N2 100 (13 + k) (N.1 102 k)).1 100 (13 + j) = _
      by_cases q : j = k
      · rw [q, mq_ps]
      · rw [mq_pj (by omega)]; exact h2 j (by omega)
    · show (mm_pi N2 100 (13 + k) (N.1 102 k)).1 100 j = _
      rw [mq_pj (by omega)]; exact h3 j hj
  · rw [if_neg c]
    rw [Int32.lt_iff_toInt_lt] at c
    have : k = d := by omega
    subst this
    exact mq_1_ret (.inr ⟨_, rfl, h1, h2, h3, hkp⟩)
theorem mq_clow4 {M N : mm_M} (h : mq_P M N) (hl : M.2.1 80 15 = N.2.1 84 53) (hz : mq_z N ≤ 900000000) : mq_2 mq_F (mf_60 (M.2.1 80 15) 4 M) (mf_283_L198 3 N) (fun _ M2 _ N2 => mq_P M2 N2) := by
  unfold mf_60
  refine mq_2_Bl' (P := fun _ M2 _ N2 => mq_P M2 N2) ?_ (fun _ _ _ _ q => ⟨(), rfl, q⟩)
  unfold mf_60_L5 mf_283_L198
  refine mq_2_Lf (I := fun (a : Int32) M2 (b : Int32) N2 => a = b ∧ -1 ≤ a.toInt ∧ a.toInt ≤ 3 ∧ mq_po (8 * (3 - a.toInt)) M N () M2 () N2) (m := fun a _ => (a.toInt + 1).toNat) ?_ ⟨rfl, by decide, by decide, h, by have : (4 - 1 : Int32).toInt = 3 := rfl; omega, mq_kp_refl, mq_kp_refl⟩
  rintro a M2 b N2 ⟨rfl, a0, a1, hP, z2, f1, f2⟩
  unfold mf_60_b5 mf_283_b198
  by_cases c : a < 0
  · rw [if_pos c, if_pos c]
    exact mq_2_ret (.inr ⟨_, _, rfl, rfl, hP⟩)
  · rw [if_neg c, if_neg c, (f2 84 53 rfl).2, ← hl]
    rw [Int32.lt_iff_toInt_lt] at c
    simp only [Int32.reduceToInt] at c
    have e1 : (a + -1).toInt = a.toInt - 1 := by rw [mi_add]; simp only [Int32.reduceToInt]; omega
    refine mq_2_Bf (mq_pb hP (by omega) (mi_low8 _)) ?_
    rintro _ M3 _ N3 ⟨⟨p, z, k1, k2⟩, _⟩
    exact mq_2_ret (.inl ⟨_, _, rfl, rfl, ⟨rfl, by omega, by omega, p, by omega, mq_kp_trans f1 k1, mq_kp_trans f2 k2⟩, by omega⟩)
/-- the bytes, and the end -/
theorem mq_pch2 {M N M5 N5 : mm_M} (h : mq_P M N) (g1 : N.1 84 42 = 0) (g2 : N.1 84 43 = 0) (f1 : M.1 5 4 = 0) (f2 : M.1 5 5 = 0) (ce0 : mq_ce M5 N5 0 1) (KM : mq_kp mw_171 M M5) (KN : mq_kp mw_283 N N5) : mq_2 mq_F (mm_B (mf_171_L58 ((0 : Int32), (0 : Int32)) M5) (fun r7 M6 => mf_171_j152 M6)) (mm_B (mf_283_L77 ((0 : Int32), (0 : Int32)) N5) (fun r2 M1 => mm_B (mf_283_L172 (0 : Int32) M1) (fun r10 M9 => mm_B (mf_283_L198 (3 : Int32) M9) (fun r18 M17 => (some (.inl (), M17) : mm_O Unit))))) (fun _ M2 _ N2 => mq_P M2 N2) := by
  have s10 := h.1.1.2.2.1
  have s00 := h.1.1.2.1
  obtain ⟨sz, hsz⟩ : ∃ sz : Nat, (M.1 1 1).toInt = sz := ⟨(M.1 1 1).toInt.toNat, by omega⟩
  refine mq_2_Bf (mq_2_Kf (Q := fun _ M2 _ N2 => ∃ d, mq_ce M2 N2 (9 * sz) d) ?_ mk_171_L58 mk_283_L77) ?_
  · unfold mf_171_L58 mf_283_L77
    refine mq_2_Lf (I := fun (a : Int32 × Int32) M2 (b : Int32 × Int32) N2 => a = b ∧ ∃ k d : Nat, a.2.toInt = k ∧ k ≤ sz ∧ 0 ≤ a.1.toInt ∧ a.1.toInt < 256 ∧ mq_ce M2 N2 (9 * k) d ∧ mq_kp mw_171 M M2) (m := fun a _ => ((sz : Int) - a.2.toInt).toNat) ?_ ⟨rfl, 0, 1, rfl, Nat.zero_le _, by decide, by decide, ce0, KM⟩
    rintro ⟨bf, at_⟩ M6 b N6 ⟨rfl, k, d, hk, ks, b0, b1, hc, kM⟩
    dsimp only at hk b0 b1 ⊢
    unfold mf_171_b58 mf_283_b77
    have hT := hc
    obtain ⟨_, _, _, _, _, _, _, _, _, _, hT⟩ := hT
    have es : M6.1 1 1 = M.1 1 1 := (kM 1 1 rfl).1
    have eN : N6.1 84 2 = M.1 1 1 := by rw [← hT.1]; exact es
    rw [es, eN]
    by_cases c : at_ < M.1 1 1
    · rw [if_pos c, if_pos c]
      rw [Int32.lt_iff_toInt_lt] at c
      have er : (0 + mm_rem at_ 4).toInt = ((k % 4 : Nat) : Int) := by
        have a : (mm_rem at_ 4).toInt = at_.toInt % 4 := by rw [mi_rem (by omega) (by decide)]; rfl
        rw [mi_add, a, hk]
        simp only [Int32.reduceToInt]
        omega
      have em : mq_mp (k % 4) = k % 4 := by unfold mq_mp; rw [if_pos (by omega)]
      refine mq_2_Bf (mq_2_Kf (mq_cw (i := k % 4) hc (by omega) er (by rw [em]; exact er) (.inl rfl) (by omega)) mk_172 mk_282) ?_
      rintro _ M7 _ N7 ⟨⟨d7, h7⟩, k7, l7⟩
      have hin : mm_in at_ 10000 = true := mq_inr (by omega) (by omega)
      have nk : at_.toNatClampNeg = k := by rw [mq_cl]; omega
      have e7 : M7.1 2 k = M6.1 2 k := (k7 2 k rfl).1
      obtain ⟨t1, t2, t3⟩ := hT.2.2.2 k (by rw [es]; omega)
      have e8 : N7.1 85 k = M6.1 2 k := by rw [(l7 85 k rfl).1]; exact t1.symm
      rw [if_pos hin, nk, e7]
      have esh : (mm_shr bf 5).toInt = bf.toInt / 32 := by rw [mi_shr_nat b0 (by decide) (by decide)]; rfl
      have e768 : (768 * mm_shr bf 5).toInt = 768 * (bf.toInt / 32) := by rw [mi_mul, esh]; simp only [Int32.reduceToInt]; omega
      have ef : (2052 + 768 * mm_shr bf 5).toInt = ((2052 + 768 * (bf.toInt.toNat / 32) : Nat) : Int) := by rw [mi_add, e768]; simp only [Int32.reduceToInt]; omega
      have eg : (2244 + 768 * mm_shr bf 5).toInt = ((2244 + 768 * (bf.toInt.toNat / 32) : Nat) : Int) := by rw [mi_add, e768]; simp only [Int32.reduceToInt]; omega
      refine mq_2_Bf (mq_2_Kf (mq_cbyte (v1 := M6.1 2 k) (v2 := at_) (x := at_) (xx := bf.toInt.toNat / 32) (kk := 1) (s := 0) h7 ef eg (by omega) hin (fun N2 q => by rw [nk, (q 85 k rfl).1]; exact e8) rfl rfl (by omega) (by decide) (by omega)) mk_171_L108 mk_283_L114) ?_
      rintro _ M8 _ N8 ⟨⟨d8, h8⟩, k8, l8⟩
      unfold mf_283_j157
      have e9 : N8.1 85 k = M6.1 2 k := by rw [(l8 85 k rfl).1]; exact e8
      rw [if_pos hin, nk, e9]
      have e1 : (at_ + 1).toInt = ((k + 1 : Nat) : Int) := by rw [mi_add]; simp only [Int32.reduceToInt]; omega
      refine mq_2_ret (.inl ⟨_, _, rfl, rfl, ⟨rfl, k + 1, d8, e1, by omega, t2, t3, ?_, mq_kp_trans kM (mq_kp_trans (mq_kp_sub k7 rfl) (mq_kp_sub k8 rfl))⟩, by dsimp only; omega⟩)
      rw [show 9 * (k + 1) = 9 * k + 1 + (8 - 0) from by omega]
      exact h8
    · rw [if_neg c, if_neg c]
      rw [Int32.lt_iff_toInt_lt] at c
      have : k = sz := by omega
      subst this
      exact mq_2_ret (.inr ⟨_, _, rfl, rfl, d, hc⟩)
  · rintro _ M6 _ N6 ⟨⟨d, hc⟩, k6, l6⟩
    have KM6 := mq_kp_trans KM (mq_kp_sub k6 rfl)
    have KN6 := mq_kp_trans KN (mq_kp_sub l6 rfl)
    obtain ⟨R, lw, ⟨r1, r2, r3, r4⟩, ⟨l1, l2, l3⟩, ⟨d1, d2, d3, d4, d5⟩, h4, h5, h6, h7, h8, h9⟩ := hc
    have hbd := mc_inv_b h7 r4
    obtain ⟨_, N7, y7, w1, w2, w3, l7⟩ := mq_L172' d1 (by omega) d5
    rw [y7, mq_Bs]
    have f3 : M6.1 5 4 = 0 := by rw [(KM6 5 4 rfl).1]; exact f1
    have f4 : M6.1 5 5 = 0 := by rw [(KM6 5 5 rfl).1]; exact f2
    have f5 : N7.1 84 42 = 0 := by rw [(l7 84 42 rfl).1, (KN6 84 42 rfl).1]; exact g1
    have f6 : N7.1 84 43 = 0 := by rw [(l7 84 43 rfl).1, (KN6 84 43 rfl).1]; exact g2
    have p7 : mq_P M6 N7 := by
      refine ⟨⟨?_, by omega, .inl ⟨by omega, Int32.toInt_inj.mp (by omega), d4⟩, fun j hj => ?_⟩, by rw [f3, f5], by rw [f3]; decide, by rw [f3]; decide, by rw [f4, f6], by rw [f4]; decide, by rw [f4]; decide⟩
      · obtain ⟨t1, t2, t3, t4⟩ := h9
        refine ⟨by rw [(l7 84 2 rfl).1]; exact t1, t2, t3, fun j hj => ?_⟩
        rw [(l7 85 j rfl).1]; exact t4 j hj
      · by_cases q : j < 13
        · rw [w3 j q]; exact h5 j q
        · have e : j = 13 + (j - 13) := by omega
          obtain ⟨x1, x2, x3⟩ := h4 (j - 13) (by omega)
          rw [e, w2 (j - 13) (by omega), x1]
          exact ⟨rfl, x2, by omega⟩
    unfold mf_171_j152
    have z7 : mq_z N7 ≤ 900000000 := by
      unfold mq_z
      rw [f6, w1]
      simp only [Int32.reduceToInt]
      omega
    refine mq_2_Bf (mq_clow4 p7 (by rw [(l7 84 53 rfl).2]; exact l1) z7) ?_
    rintro _ M8 _ N8 p8
    exact mq_2_ret p8
/-- CHANCES are written -/
theorem mq_pchances {M N : mm_M} (h : mq_P M N) (hm : N.1 84 41 = 0) (g1 : N.1 84 42 = 0) (g2 : N.1 84 43 = 0) : mq_2 mq_F (mf_171 M) (mf_283 N) (fun _ M2 _ N2 => mq_P M2 N2) := by
  have z0 : mq_z N = 0 := by unfold mq_z; rw [hm, g2]; rfl
  have hm0 : (N.1 84 41).toInt = 0 := by rw [hm]; rfl
  have f1 : M.1 5 4 = 0 := by rw [h.2.1]; exact g1
  have f2 : M.1 5 5 = 0 := by rw [h.2.2.2.2.1]; exact g2
  unfold mf_171 mf_283
  refine mq_2_Bf (mq_2_Kf (mq_pb h (by omega) (by decide)) mk_57 mk_245) ?_
  rintro _ M1 _ N1 ⟨⟨⟨p1, z1, _, _⟩, m1⟩, a1, b1⟩
  refine mq_2_Bf (mq_2_Kf (mq_wlowb p1 (by decide) (by decide) (by simp only [Int32.reduceToInt]; omega)) mk_59 mk_246) ?_
  rintro _ M2 _ N2 ⟨⟨⟨p2, z2, _, _⟩, m2⟩, a2, b2⟩
  simp only [Int32.reduceToInt] at z2 m2
  rw [← p2.1.1.1]
  refine mq_2_Bf (mq_2_Kf (mq_wlowb p2 (by decide) (by decide) (by simp only [Int32.reduceToInt]; omega)) mk_59 mk_246) ?_
  rintro _ M3 _ N3 ⟨⟨⟨p3, z3, _, _⟩, m3⟩, a3, b3⟩
  simp only [Int32.reduceToInt] at z3 m3
  have hm3 : (N3.1 84 41).toInt = 13 := by omega
  have q3 : M3.1 5 1 = N3.1 84 41 ∧ M3.1 5 2 = 0 := by
    rcases p3.1.2.2.1 with ⟨_, q, q2⟩ | ⟨q, _⟩
    · exact ⟨q, q2⟩
    · omega
  have i13 : M3.1 5 1 = 13 := by rw [q3.1]; exact Int32.toInt_inj.mp hm3
  have x57 : mf_57 0 M3 = some (.inl (), mm_pi (mm_pi M3 6 13 0) 5 1 14) := by
    unfold mf_57
    rw [i13, if_pos (by decide), if_pos (by decide)]
    rfl
  rw [x57, mq_Bs]
  -- the class's chances
  obtain ⟨_, M4, x4, hv4, k4⟩ := mq_fill (M := mm_pi (mm_pi M3 6 13 0) 5 1 14) (q := 81) (n := 14340) (v := 1024) (by decide)
  have x158 : mf_158 (mm_pi (mm_pi M3 6 13 0) 5 1 14) = some (.inl (), (mm_pi (mm_pi (mm_pi (mm_pi (mm_pi (mm_pl M4 80 4 (4294967295 : Int64)) 80 9 (0 : Int32)) 80 10 (1 : Int32)) 80 11 (1 : Int32)) 80 12 (1 : Int32)) 80 13 (1 : Int32))) := by
    unfold mf_158
    rw [x4, mq_Bs]
  rw [x158, mq_Bs]
  -- the reference's
  obtain ⟨_, N4, y4, hw4, l4⟩ := mq_fill98 (N := N3)
  rw [y4, mq_Bs]
  unfold mf_283_j49
  rw [if_pos (by decide)]
  have ce0 : mq_ce (mm_pl (mm_pi (mm_pi (mm_pi (mm_pi (mm_pi (mm_pl M4 80 4 (4294967295 : Int64)) 80 9 (0 : Int32)) 80 10 (1 : Int32)) 80 11 (1 : Int32)) 80 12 (1 : Int32)) 80 13 (1 : Int32)) 80 15 0) (mm_pi (mm_pi (mm_pl (mm_pl N4 84 33 (4294967295 : Int64)) 84 53 (0 : Int64)) 102 (0 : Int32).toNatClampNeg (0 : Int32)) 84 54 (1 : Int32)) 0 1 := by
    have e1 : M4.1 5 1 = 14 := (k4 5 1 rfl).1
    have e2 : M4.1 5 2 = 0 := by rw [(k4 5 2 rfl).1]; exact q3.2
    have e3 : N4.1 84 41 = N3.1 84 41 := (l4 84 41 rfl).1
    have e6 : ∀ j, M4.1 6 j = (mm_pi M3 6 13 0).1 6 j := fun j => (k4 6 j rfl).1
    refine ⟨4294967295, 0, ⟨rfl, rfl, by decide, by decide⟩, ⟨rfl, rfl, by decide⟩, ⟨rfl, Nat.le_refl _, ?_, e2, ?_⟩, fun j hj => ?_, fun j hj => ?_, fun i hi => ?_, ?_, ?_, ?_⟩
    · show (M4.1 5 1).toInt = _
      rw [e1]; rfl
    · show (N4.1 84 41).toInt = 13
      rw [e3]; exact hm3
    · have : j = 0 := by omega
      subst this
      show M4.1 6 13 = (mm_pi (mm_pl (mm_pl N4 84 33 (4294967295 : Int64)) 84 53 (0 : Int64)) 102 0 0).1 102 0 ∧ 0 ≤ ((mm_pi (mm_pl (mm_pl N4 84 33 (4294967295 : Int64)) 84 53 (0 : Int64)) 102 0 0).1 102 0).toInt ∧ ((mm_pi (mm_pl (mm_pl N4 84 33 (4294967295 : Int64)) 84 53 (0 : Int64)) 102 0 0).1 102 0).toInt ≤ 255
      rw [e6, mq_ps, mq_ps]
      exact ⟨rfl, by decide, by decide⟩
    · show M4.1 6 j = N4.1 100 j ∧ 0 ≤ (M4.1 6 j).toInt ∧ (M4.1 6 j).toInt < 256
      rw [e6, mq_pj (by omega), (l4 100 j rfl).1]
      exact p3.1.2.2.2 j (by rw [i13]; show (j : Int) < 13; omega)
    · show M4.1 81 i = N4.1 98 (mq_mp i) ∧ 31 ≤ (M4.1 81 i).toInt ∧ (M4.1 81 i).toInt ≤ 2017
      rw [hv4 i hi, hw4 _ (mq_mp_lt hi)]
      exact ⟨rfl, by decide, by decide⟩
    · have : mc_sum (fun i => mc_ph (M4.1 81 i).toInt.toNat) 14340 = 0 := mc_sum_0 (fun j hj => by rw [hv4 j hj]; exact mc_ph_0)
      show mc_inv 0 4294967295 (mc_sum (fun i => mc_ph (M4.1 81 i).toInt.toNat) 14340) 0
      rw [this]
      unfold mc_inv
      exact Nat.le_of_eq (by rw [Nat.pow_zero, Nat.one_mul])
    · show mc_ok (256 * 0 + ((mm_pi (mm_pl (mm_pl N4 84 33 (4294967295 : Int64)) 84 53 (0 : Int64)) 102 0 0).1 102 0).toInt.toNat) 0 4294967295 1
      rw [mq_ps]
      exact mc_ok_0
    · have t := p3.1.1
      have w1 : M4.1 1 1 = M3.1 1 1 := (k4 1 1 rfl).1
      have w2 : N4.1 84 2 = N3.1 84 2 := (l4 84 2 rfl).1
      refine ⟨?_, ?_, ?_, fun j hj => ?_⟩
      · show M4.1 1 1 = N4.1 84 2
        rw [w1, w2]; exact t.1
      · show 0 ≤ (M4.1 1 1).toInt
        rw [w1]; exact t.2.1
      · show (M4.1 1 1).toInt ≤ 10000
        rw [w1]; exact t.2.2.1
      · have hj : (j : Int) < (M4.1 1 1).toInt := hj
        rw [w1] at hj
        show M4.1 2 j = N4.1 85 j ∧ 0 ≤ (M4.1 2 j).toInt ∧ (M4.1 2 j).toInt < 256
        have w3 : M4.1 2 j = M3.1 2 j := (k4 2 j rfl).1
        rw [w3, (l4 85 j rfl).1]
        exact t.2.2.2 j hj
  -- frames so far
  have KM : mq_kp mw_171 M (mm_pl (mm_pi (mm_pi (mm_pi (mm_pi (mm_pi (mm_pl M4 80 4 (4294967295 : Int64)) 80 9 (0 : Int32)) 80 10 (1 : Int32)) 80 11 (1 : Int32)) 80 12 (1 : Int32)) 80 13 (1 : Int32)) 80 15 0) := mq_kp_pl (mq_kp_pi (mq_kp_pi (mq_kp_pi (mq_kp_pi (mq_kp_pi (mq_kp_pl (mq_kp_trans (mq_kp_sub a1 rfl) (mq_kp_trans (mq_kp_sub a2 rfl) (mq_kp_trans (mq_kp_sub a3 rfl) (mq_kp_trans (mq_kp_pi (mq_kp_pi mq_kp_refl rfl) rfl) (mq_kp_sub k4 rfl))))) rfl) rfl) rfl) rfl) rfl) rfl) rfl
  have KN : mq_kp mw_283 N (mm_pi (mm_pi (mm_pl (mm_pl N4 84 33 (4294967295 : Int64)) 84 53 (0 : Int64)) 102 (0 : Int32).toNatClampNeg (0 : Int32)) 84 54 (1 : Int32)) := mq_kp_pi (mq_kp_pi (mq_kp_pl (mq_kp_pl (mq_kp_trans (mq_kp_sub b1 rfl) (mq_kp_trans (mq_kp_sub b2 rfl) (mq_kp_trans (mq_kp_sub b3 rfl) (mq_kp_sub l4 rfl)))) rfl) rfl) rfl) rfl
  exact mq_pch2 h g1 g2 f1 f2 ce0 KM KN
