/-! THE CALLS: feed, turn, open -/
noncomputable def mq_pM (M : mm_M) (b : Int32) : mm_M := mm_pi (mm_pi M 2 (M.1 1 1).toNatClampNeg b) 1 1 (M.1 1 1 + 1)
noncomputable def mq_pN (N : mm_M) (b : Int32) : mm_M := mm_pi (mm_pi N 85 (N.1 84 2).toNatClampNeg b) 84 2 (N.1 84 2 + 1)
theorem mq_fput {M N : mm_M} {b : Int32} (h : mq_J M N) (hs : (M.1 1 1).toInt < 10000) (b0 : 0 ≤ b.toInt) (b1 : b.toInt < 256) : mq_J (mq_pM M b) (mq_pN N b) ∧ ((mq_pM M b).1 1 1).toInt = (M.1 1 1).toInt + 1 := by
  obtain ⟨⟨t1, t2, t3, t4⟩, h2⟩ := h
  have e : (M.1 1 1 + 1).toInt = (M.1 1 1).toInt + 1 := by rw [mi_add]; simp only [Int32.reduceToInt]; omega
  refine ⟨⟨⟨?_, ?_, ?_, ?_⟩, h2⟩, e⟩
  · show M.1 1 1 + 1 = N.1 84 2 + 1
    rw [t1]
  · show 0 ≤ (M.1 1 1 + 1).toInt
    omega
  · show (M.1 1 1 + 1).toInt ≤ 10000
    omega
  · intro j hj
    have hj : (j : Int) < (M.1 1 1 + 1).toInt := hj
    show (mm_pi M 2 (M.1 1 1).toNatClampNeg b).1 2 j = (mm_pi N 85 (N.1 84 2).toNatClampNeg b).1 85 j ∧ 0 ≤ ((mm_pi M 2 (M.1 1 1).toNatClampNeg b).1 2 j).toInt ∧ ((mm_pi M 2 (M.1 1 1).toNatClampNeg b).1 2 j).toInt < 256
    rw [← t1]
    by_cases q : j = (M.1 1 1).toNatClampNeg
    · rw [q, mq_ps, mq_ps]; exact ⟨rfl, b0, b1⟩
    · rw [mq_pj q, mq_pj q]
      exact t4 j (by rw [mq_cl] at q; omega)
theorem mi_b255 (x : Int32) : 0 ≤ (x &&& 255).toInt ∧ (x &&& 255).toInt < 256 := by
  have e : (x &&& 255).toInt = x.toInt % 256 := mi_and x 8 (by decide)
  omega
theorem mq_39s {v s s2 : Int32} {M : mm_M} (h0 : 0 ≤ (M.1 1 1).toInt) (h1 : (M.1 1 1).toInt < 10000) (hs : ¬ s < 0) (hs2 : s + -8 = s2) : mf_39_L3 v s M = mf_39_L3 v s2 (mq_pM M (mm_ush v s &&& 255)) := by
  have e : mf_39_b3 v s M = some (.inl (.inl s2), mq_pM M (mm_ush v s &&& 255)) := by
    unfold mf_39_b3
    rw [if_neg hs, if_pos (by rw [Int32.lt_iff_toInt_lt]; exact h1), if_pos (mq_inr h0 (by omega)), hs2]
    rfl
  have e2 : mf_39_L3 v s M = mm_B (mf_39_b3 v s M) (mm_nx (mm_L (fun s M => mf_39_b3 v s M))) := mm_L_eq _ _ _
  rw [e2, e]
  rfl
theorem mq_175s {v1 v2 v3 v4 v5 k k2 w s : Int32} {N : mm_M} (h0 : 0 ≤ (N.1 84 2).toInt) (h1 : (N.1 84 2).toInt < 10000) (hb : mf_175_b30 v1 v2 v3 v4 v5 k N = mf_175_j83 v1 v2 v3 v4 v5 k w N) (hk : k + 1 = k2) (hs : 24 - mm_rem k 4 * 8 = s) : mf_175_L30 v1 v2 v3 v4 v5 k N = mf_175_L30 v1 v2 v3 v4 v5 k2 (mq_pN N (mm_ush w s &&& 255)) := by
  have e : mf_175_b30 v1 v2 v3 v4 v5 k N = some (.inl (.inl k2), mq_pN N (mm_ush w s &&& 255)) := by
    rw [hb]
    unfold mf_175_j83
    rw [if_pos (mq_inr h0 (by omega)), hk, hs]
    rfl
  have e2 : mf_175_L30 v1 v2 v3 v4 v5 k N = mm_B (mf_175_b30 v1 v2 v3 v4 v5 k N) (mm_nx (mm_L (fun s M => mf_175_b30 v1 v2 v3 v4 v5 s M))) := mm_L_eq _ _ _
  rw [e2, e]
  rfl
theorem mq_feed4 {v1 v2 v3 v4 v5 w k0 k1 k2 k3 k4 : Int32} {M N : mm_M} (h : mq_J M N) (hs : (M.1 1 1).toInt + 4 ≤ 10000) (hb0 : ∀ N, mf_175_b30 v1 v2 v3 v4 v5 k0 N = mf_175_j83 v1 v2 v3 v4 v5 k0 w N) (hb1 : ∀ N, mf_175_b30 v1 v2 v3 v4 v5 k1 N = mf_175_j83 v1 v2 v3 v4 v5 k1 w N) (hb2 : ∀ N, mf_175_b30 v1 v2 v3 v4 v5 k2 N = mf_175_j83 v1 v2 v3 v4 v5 k2 w N) (hb3 : ∀ N, mf_175_b30 v1 v2 v3 v4 v5 k3 N = mf_175_j83 v1 v2 v3 v4 v5 k3 w N)
    (a0 : k0 + 1 = k1) (a1 : k1 + 1 = k2) (a2 : k2 + 1 = k3) (a3 : k3 + 1 = k4) (s0 : 24 - mm_rem k0 4 * 8 = 24) (s1 : 24 - mm_rem k1 4 * 8 = 16) (s2 : 24 - mm_rem k2 4 * 8 = 8) (s3 : 24 - mm_rem k3 4 * 8 = 0) :
    ∃ M2 N2, mf_39 w M = some (.inl (), M2) ∧ mf_175_L30 v1 v2 v3 v4 v5 k0 N = mf_175_L30 v1 v2 v3 v4 v5 k4 N2 ∧ mq_J M2 N2 ∧ N2.1 84 0 = N.1 84 0 ∧ (M2.1 1 1).toInt = (M.1 1 1).toInt + 4 := by
  have g0 := h.1.2.1
  have e0 := h.1.1
  obtain ⟨j1, p1⟩ := mq_fput (b := mm_ush w 24 &&& 255) h (by omega) (mi_b255 _).1 (mi_b255 _).2
  have e1 := j1.1.1
  obtain ⟨j2, p2⟩ := mq_fput (b := mm_ush w 16 &&& 255) j1 (by omega) (mi_b255 _).1 (mi_b255 _).2
  have e2 := j2.1.1
  obtain ⟨j3, p3⟩ := mq_fput (b := mm_ush w 8 &&& 255) j2 (by omega) (mi_b255 _).1 (mi_b255 _).2
  have e3 := j3.1.1
  obtain ⟨j4, p4⟩ := mq_fput (b := mm_ush w 0 &&& 255) j3 (by omega) (mi_b255 _).1 (mi_b255 _).2
  refine ⟨_, _, ?_, ?_, j4, rfl, by omega⟩
  · unfold mf_39
    rw [mq_39s (s2 := 16) g0 (by omega) (by decide) (by decide), mq_39s (s2 := 8) (by omega) (by omega) (by decide) (by decide), mq_39s (s2 := 0) (by omega) (by omega) (by decide) (by decide), mq_39s (s2 := -8) (by omega) (by omega) (by decide) (by decide)]
    have e : ∀ M, mf_39_L3 w (-8) M = some (.inl (), M) := by
      intro M
      have e2 : mf_39_L3 w (-8) M = mm_B (mf_39_b3 w (-8) M) (mm_nx (mm_L (fun s M => mf_39_b3 w s M))) := mm_L_eq _ _ _
      rw [e2]
      unfold mf_39_b3
      rw [if_pos (by decide)]
      rfl
    rw [e]
    rfl
  · rw [mq_175s (by rw [← e0]; exact g0) (by rw [← e0]; omega) (hb0 _) a0 s0]
    rw [mq_175s (by rw [← e1]; omega) (by rw [← e1]; omega) (hb1 _) a1 s1]
    rw [mq_175s (by rw [← e2]; omega) (by rw [← e2]; omega) (hb2 _) a2 s2]
    rw [mq_175s (by rw [← e3]; omega) (by rw [← e3]; omega) (hb3 _) a3 s3]
theorem mq_feed {M N : mm_M} {v1 v2 v3 v4 v5 : Int32} (h : mq_J M N) : mq_2 mq_F (mf_0 v1 v2 v3 v4 v5 M) (mf_175 v1 v2 v3 v4 v5 N) mq_C := by
  show mq_2 mq_F (mq_w (mf_13 v1 v2 v3 v4 v5 M) 3) _ _
  obtain ⟨t1, t2, t3, t4⟩ := h.1
  unfold mf_13 mf_175 mf_175_j19
  rw [← t1]
  by_cases c : 10000 < M.1 1 1 + 20
  · rw [if_pos c, if_pos c]; exact mq_ref h rfl rfl
  · rw [if_neg c, if_neg c, mq_174_1, mq_Bs, if_neg (show ¬ (1 : Int32) = 0 from by decide)]
    have c2 : (M.1 1 1).toInt + 20 ≤ 10000 := by
      rw [Int32.lt_iff_toInt_lt, mi_add] at c
      simp only [Int32.reduceToInt] at c
      omega
    obtain ⟨M1, N1, x1, y1, h1, z1, n1⟩ := mq_feed4 (v1 := v1) (v2 := v2) (v3 := v3) (v4 := v4) (v5 := v5) (w := v1) (k0 := 0) (k1 := 1) (k2 := 2) (k3 := 3) (k4 := 4) (mq_J_0 (v := 0) h) (by omega) (fun _ => rfl) (fun _ => rfl) (fun _ => rfl) (fun _ => rfl) (by decide) (by decide) (by decide) (by decide) (by decide) (by decide) (by decide) (by decide)
    obtain ⟨M2, N2, x2, y2, h2, z2, n2⟩ := mq_feed4 (v1 := v1) (v2 := v2) (v3 := v3) (v4 := v4) (v5 := v5) (w := v2) (k0 := 4) (k1 := 5) (k2 := 6) (k3 := 7) (k4 := 8) h1 (by omega) (fun _ => rfl) (fun _ => rfl) (fun _ => rfl) (fun _ => rfl) (by decide) (by decide) (by decide) (by decide) (by decide) (by decide) (by decide) (by decide)
    obtain ⟨M3, N3, x3, y3, h3, z3, n3⟩ := mq_feed4 (v1 := v1) (v2 := v2) (v3 := v3) (v4 := v4) (v5 := v5) (w := v3) (k0 := 8) (k1 := 9) (k2 := 10) (k3 := 11) (k4 := 12) h2 (by omega) (fun _ => rfl) (fun _ => rfl) (fun _ => rfl) (fun _ => rfl) (by decide) (by decide) (by decide) (by decide) (by decide) (by decide) (by decide) (by decide)
    obtain ⟨M4, N4, x4, y4, h4, z4, n4⟩ := mq_feed4 (v1 := v1) (v2 := v2) (v3 := v3) (v4 := v4) (v5 := v5) (w := v4) (k0 := 12) (k1 := 13) (k2 := 14) (k3 := 15) (k4 := 16) h3 (by omega) (fun _ => rfl) (fun _ => rfl) (fun _ => rfl) (fun _ => rfl) (by decide) (by decide) (by decide) (by decide) (by decide) (by decide) (by decide) (by decide)
    obtain ⟨M5, N5, x5, y5, h5, z5, n5⟩ := mq_feed4 (v1 := v1) (v2 := v2) (v3 := v3) (v4 := v4) (v5 := v5) (w := v5) (k0 := 16) (k1 := 17) (k2 := 18) (k3 := 19) (k4 := 20) h4 (by omega) (fun _ => rfl) (fun _ => rfl) (fun _ => rfl) (fun _ => rfl) (by decide) (by decide) (by decide) (by decide) (by decide) (by decide) (by decide) (by decide)
    have e : mf_175_L30 v1 v2 v3 v4 v5 20 N5 = some (.inl (), N5) := by
      have e2 : mf_175_L30 v1 v2 v3 v4 v5 20 N5 = mm_B (mf_175_b30 v1 v2 v3 v4 v5 20 N5) (mm_nx (mm_L (fun s M => mf_175_b30 v1 v2 v3 v4 v5 s M))) := mm_L_eq _ _ _
      rw [e2]
      rfl
    rw [x1, mq_Bs, x2, mq_Bs, x3, mq_Bs, x4, mq_Bs, x5, mq_Bs, y1, y2, y3, y4, y5, e, mq_Bs]
    refine mq_ok (M := M) (N := N) rfl (by rw [h5.1.1]) ?_ h5
    rw [z5, z4, z3, z2, z1]
    rfl
theorem mq_L26 {N : mm_M} {n : Nat} (hn : (N.1 84 4).toInt = n) (h : n ≤ 10000) : mq_1 (mf_178_L26 0 N) (fun _ N2 => (∀ s, s < n → N2.1 85 s = N.1 86 s) ∧ mq_kp [(85, none)] N N2) := by
  unfold mf_178_L26
  refine mq_1_L (I := fun (a : Int32) N2 => ∃ k : Nat, k ≤ n ∧ a.toInt = k ∧ (∀ s, s < k → N2.1 85 s = N.1 86 s) ∧ mq_kp [(85, none)] N N2) (m := fun (a : Int32) _ => ((n : Int) - a.toInt).toNat) ?_ ⟨0, by omega, rfl, fun s h => by omega, mq_kp_refl⟩
  rintro x N2 ⟨k, hk, hx, hv, hkp⟩
  unfold mf_178_b26
  rw [(hkp 84 4 rfl).1]
  refine mq_1_ite (fun c => ?_) (fun c => ?_)
  · rw [Int32.lt_iff_toInt_lt, hn] at c
    have e1 : (x + 1).toInt = ((k + 1 : Nat) : Int) := by rw [mi_add]; simp only [Int32.reduceToInt]; omega
    have exn : x.toNatClampNeg = k := by rw [mq_cl]; omega
    rw [if_pos (mq_inr (by omega) (by omega)), if_pos (mq_inr (by omega) (by omega)), exn, (hkp 86 k rfl).1]
    refine mq_1_ret (.inl ⟨_, rfl, ⟨k + 1, by omega, e1, ?_, mq_kp_pi hkp rfl⟩, by omega⟩)
    intro s hs
    by_cases q : s = k
    · subst q; rw [mq_ps]
    · rw [mq_pj q]; exact hv s (by omega)
  · rw [Int32.lt_iff_toInt_lt, hn] at c
    have : k = n := by omega
    subst this
    exact mq_1_ret (.inr ⟨_, rfl, hv, hkp⟩)
theorem mq_turn {M N : mm_M} (h : mq_J M N) : mq_2 mq_F (mf_3 M) (mf_178 N) mq_C := by
  show mq_2 mq_F (mq_w (mf_16 M) 3) _ _
  obtain ⟨u1, u2, u3, u4⟩ := h.2.1
  unfold mf_16 mf_178 mf_178_j16
  rw [← u1]
  by_cases c : 10000 < M.1 3 1
  · rw [if_pos c, if_pos c]; exact mq_ref h rfl rfl
  · rw [if_neg c, if_neg c, mq_174_1, mq_Bs, if_neg (show ¬ (1 : Int32) = 0 from by decide)]
    rw [Int32.lt_iff_toInt_lt] at c
    simp only [Int32.reduceToInt] at c
    have hn : ((mm_pi N 84 0 0).1 84 4).toInt = ((M.1 3 1).toInt.toNat : Nat) := by
      show (N.1 84 4).toInt = _
      rw [← u1]; omega
    obtain ⟨_, N2, e, hv, hk⟩ := mq_L26 hn (by omega)
    rw [e, mq_Bs]
    have hok : mm_cpok 0 0 (M.1 3 1) 16384 10000 = true := by
      unfold mm_cpok
      have d : ¬ M.1 3 1 < 0 := by rw [Int32.lt_iff_toInt_lt]; simp only [Int32.reduceToInt]; omega
      simp only [d, Bool.and_eq_true, decide_eq_true_eq, Bool.not_eq_true', decide_eq_false_iff_not, not_false_eq_true]
      rw [mq_cl, mq_cl]
      simp only [Int32.reduceToInt]
      refine ⟨⟨⟨⟨by decide, by decide⟩, trivial⟩, by omega⟩, by omega⟩
    rw [if_pos hok, mq_cp1 (by decide)]
    have e4 : N2.1 84 4 = M.1 3 1 := by rw [(hk 84 4 rfl).1]; exact u1.symm
    have hU : mq_U (mm_pi (mm_cpM M 4 0 2 0 (M.1 3 1)) 1 1 (M.1 3 1)) (mm_pi N2 84 2 (N2.1 84 4)) := by
      refine ⟨e4.symm, u2, u3, fun j hj => ?_⟩
      have t := u4 j hj
      show M.1 4 j = N2.1 86 j ∧ _
      rw [(hk 86 j rfl).1]
      exact t
    have hV : mq_V (mm_pi (mm_cpM M 4 0 2 0 (M.1 3 1)) 1 1 (M.1 3 1)) (mm_pi N2 84 2 (N2.1 84 4)) := by
      obtain ⟨v1, v2, v3, v4, v5, v6⟩ := h.2.2.1
      exact ⟨v1.trans (hk 84 5 rfl).1.symm, v2.trans (hk 84 8 rfl).1.symm, v3.trans (hk 84 9 rfl).1.symm, v4.trans (hk 84 10 rfl).1.symm, v5.trans (hk 84 11 rfl).1.symm, v6.trans (hk 84 12 rfl).1.symm⟩
    have hT : mq_T (mm_pi (mm_cpM M 4 0 2 0 (M.1 3 1)) 1 1 (M.1 3 1)) (mm_pi N2 84 2 (N2.1 84 4)) := by
      refine ⟨e4.symm, u2, (by show (M.1 3 1).toInt ≤ 10000; omega), fun j hj => ?_⟩
      have hj : (j : Int) < (M.1 3 1).toInt := hj
      have e1 : (mm_pi (mm_cpM M 4 0 2 0 (M.1 3 1)) 1 1 (M.1 3 1)).1 2 j = M.1 4 j := by
        show (mm_cpM M 4 0 2 0 (M.1 3 1)).1 2 j = _
        rw [mq_cp2 (Nat.zero_le _) (by rw [mq_cl (M.1 3 1)]; show j < 0 + _; omega)]
        show M.1 4 (0 + (j - 0)) = _
        rw [Nat.zero_add, Nat.sub_zero]
      have e2 : (mm_pi N2 84 2 (N2.1 84 4)).1 85 j = N.1 86 j := hv j (by omega)
      rw [e1, e2]
      exact u4 j hj
    refine mq_ok (M := M) (N := N) (N2 := mm_pi N2 84 2 (N2.1 84 4)) rfl (by rw [e4]) ((hk 84 0 rfl).1) ⟨hT, hU, hV, ?_, (hk 101 0 rfl).1.trans h.2.2.2.2.1, (hk 101 1 rfl).1.trans h.2.2.2.2.2⟩
    exact (mq_RW_kp (N := mm_pi N 84 0 0) (N2 := N2) (w := [(85, none)]) h.2.2.2.1 hk rfl : mq_RW N2)
theorem mq_opn {α β : Type} {x : mm_O α} {y : mm_O β} {w : List (Nat × Option Nat)} {N0 : mm_M} (h : mq_2 mq_XE x y (fun _ M2 _ N2 => mq_Q M2 N2)) (ky : mq_K w N0 y) (h89 : w.all (fun e => decide (e.1 < 89) || decide (89 < e.1)) = true) (h0 : mq_ws w 84 0 = false) (h1 : mq_ws w 101 0 = false) (h2 : mq_ws w 101 1 = false) (n0 : N0.1 84 0 = 0) (n1 : N0.1 101 0 = 100) (n2 : N0.1 101 1 = 64) (hR : mq_RW N0) : mq_2 mq_F (mq_w (mm_Bc x (fun _ M4 => some (.inl (M4.1 3 1), M4)) 0 (fun M5 => some (.inl ((-1 : Int32) - (M5.1 1 2)), M5))) 1) (mm_B y (fun _ M3 => mf_244_j221 M3)) mq_C := by
  refine mq_good ?_
  obtain ⟨b, N, e, q⟩ := h
  have k : mq_kp w N0 N := ky _ e
  have r := mq_RW_kp hR k h89
  have k0 : N.1 84 0 = 0 := (k 84 0 h0).1.trans n0
  have k1 : N.1 101 0 = 100 := (k 101 0 h1).1.trans n1
  have k2 : N.1 101 1 = 64 := (k 101 1 h2).1.trans n2
  rw [e]
  rcases q with ⟨a, M2, e1, q1, q2, q3, q4⟩ | ⟨M2, e1, q1, q2, q3, q4, _⟩
  · rw [e1]
    show mq_2 mq_F (some (.inl (M2.1 3 1), M2)) (mf_244_j221 N) _
    unfold mf_244_j221
    rw [if_pos q4]
    exact mq_2_ret ⟨q2.1, k0, q1, q2, q3, r, k1, k2⟩
  · rw [e1]
    show mq_2 mq_F (some (.inl (-1 - M2.1 1 2), M2)) (mf_244_j221 N) _
    unfold mf_244_j221
    rw [if_neg (by rw [q4]; decide)]
    exact mq_2_ret ⟨by rw [q3.1], k0, q1, q2, q3, r, k1, k2⟩
theorem mq_Q_of {α β : Type} {x : mm_O α} {y : mm_O β} (h : mq_2 mq_XE x y (fun _ M2 _ N2 => mq_S M2 N2)) : mq_2 mq_XE x y (fun _ M2 _ N2 => mq_Q M2 N2) := mq_2_mono h (fun _ _ _ _ q => mq_S_Q q) (fun _ _ _ q => q)
noncomputable def mq_MA (M : mm_M) : mm_M := (mm_pi (mm_pi (mm_pi (mm_pi (mm_pi M 1 2 (0 : Int32)) 1 3 (M.1 1 1)) 1 4 (0 : Int32)) 1 5 (0 : Int32)) 1 6 (0 : Int32))
noncomputable def mq_MB (M : mm_M) : mm_M := (mm_pi (mm_pi (mm_pi (mm_pi (mm_pi (mm_pi M 3 1 (0 : Int32)) 3 2 (0 : Int32)) 3 3 (0 : Int32)) 3 4 (0 : Int32)) 3 5 (0 : Int32)) 3 6 (0 : Int32))
noncomputable def mq_N0 (M2 : mm_M) : mm_M := (mm_pi (mm_pi (mm_pi (mm_pi (mm_pi (mm_pi (mm_pi (mm_pi (mm_pi (mm_pi M2 84 5 (0 : Int32)) 84 6 (1000000000 : Int32)) 84 7 (0 : Int32)) 84 4 (0 : Int32)) 84 8 (0 : Int32)) 84 9 (0 : Int32)) 84 10 (0 : Int32)) 84 11 (0 : Int32)) 84 12 (0 : Int32)) 84 15 (0 : Int32))
theorem mq_W0 {M N : mm_M} (h : mq_J M N) : mq_W (mq_MB (mq_MA M)) (mq_N0 N) := by
  obtain ⟨t1, t2, t3, t4⟩ := h.1
  refine ⟨⟨⟨t1, t2, t3, t4⟩, ⟨rfl, (by show 0 ≤ (0 : Int32).toInt; decide), (by show (0 : Int32).toInt ≤ 16384; decide), fun j hj => ?_⟩, ⟨rfl, rfl, rfl, rfl, rfl, rfl⟩, ⟨rfl, (by show 0 ≤ (0 : Int32).toInt; decide), (by show (0 : Int32).toInt < 8; decide), fun q => absurd rfl q⟩, ⟨rfl, (by show 0 ≤ (0 : Int32).toInt; decide), ?_, ?_, ?_⟩⟩, rfl⟩
  · have hj : (j : Int) < (0 : Int32).toInt := hj
    simp only [Int32.reduceToInt] at hj
    omega
  · show (0 : Int32).toInt ≤ (M.1 1 1).toInt
    simp only [Int32.reduceToInt]
    omega
  · show (M.1 1 1).toInt ≤ (M.1 1 1).toInt
    omega
  · left
    have e9 : (1000000000 : Int32).toInt = 1000000000 := rfl
    exact ⟨rfl, by show (M.1 1 1).toInt ≤ (1000000000 : Int32).toInt; omega⟩
theorem mq_open {M N : mm_M} {v : Int32} (h : mq_J M N) : mq_2 mq_F (mf_4 v M) (mf_244 v N) mq_C := by
  show mq_2 mq_F (mq_w (mf_17 v M) 1) _ _
  by_cases c : v < 0 ∨ 10 < v
  · refine mq_ref h ?_ ?_
    · unfold mf_17 mf_26
      by_cases d : v < 0
      · rw [if_pos d]; rfl
      · rw [if_neg d, if_pos (c.resolve_left d)]; rfl
    · unfold mf_244 mf_244_j15 mf_244_j16
      by_cases d : v < 0
      · rw [if_pos d]; rfl
      · rw [if_neg d, if_pos (c.resolve_left d)]; rfl
  have c1 : ¬ v < 0 := fun q => c (.inl q)
  have c2 : ¬ 10 < v := fun q => c (.inr q)
  have W := mq_W0 (mq_J_0 (v := 0) h)
  have hR : mq_RW (mq_N0 (mm_pi N 84 0 0)) := h.2.2.2.1
  have h1 : (mq_N0 (mm_pi N 84 0 0)).1 101 0 = 100 := h.2.2.2.2.1
  have h2 : (mq_N0 (mm_pi N 84 0 0)).1 101 1 = 64 := h.2.2.2.2.2
  have e1 : mf_26 v M = some (.inl (), M) := by unfold mf_26; rw [if_neg c1, if_neg c2]
  have e2 : mf_40 M = some (.inl (), mq_MA M) := rfl
  have e3 : mf_49 (mq_MA M) = some (.inl (), mq_MB (mq_MA M)) := rfl
  have e4 : mf_244 v N = mf_244_j16 v 1 N := by unfold mf_244; rw [if_neg c1, if_neg c2]
  rw [e4]
  unfold mf_17 mf_244_j16
  rw [e1, mq_Bs, e2, mq_Bs, e3, mq_Bs, mq_174_1, mq_Bs, if_neg (show ¬ (1 : Int32) = 0 from by decide)]
  by_cases q0 : v = 0
  · rw [if_pos q0, if_pos q0]
    exact mq_opn (N0 := mq_N0 (mm_pi N 84 0 0)) (mq_Q_of (mq_runs W rfl rfl)) mk_214 rfl rfl rfl rfl rfl h1 h2 hR
  rw [if_neg q0, if_neg q0]
  by_cases q1 : v = 1
  · rw [if_pos q1, if_pos q1]
    exact mq_opn (N0 := mq_N0 (mm_pi N 84 0 0)) (mq_2_mono (mq_blocks W rfl hR (.inr ⟨by decide, by decide⟩)) (fun _ M2 _ N2 q => (show mq_Q (mm_pi M2 1 6 0) N2 from mq_S_Q q.1)) (fun _ _ _ q => q)) mk_203 rfl rfl rfl rfl rfl h1 h2 hR
  rw [if_neg q1, if_neg q1]
  by_cases q2 : v = 2
  · rw [if_pos q2, if_pos q2]
    exact mq_opn (N0 := mq_N0 (mm_pi N 84 0 0)) (mq_wrapped W rfl hR) mk_210 rfl rfl rfl rfl rfl h1 h2 hR
  rw [if_neg q2, if_neg q2]
  by_cases q3 : v = 3
  · rw [if_pos q3, if_pos q3]
    exact mq_opn (N0 := mq_N0 (mm_pi N 84 0 0)) (mq_file ⟨W, rfl, hR⟩) mk_212 rfl rfl rfl rfl rfl h1 h2 hR
  rw [if_neg q3, if_neg q3]
  by_cases q4 : v = 4
  · rw [if_pos q4, if_pos q4]
    exact mq_opn (N0 := mq_N0 (mm_pi N 84 0 0)) (mq_Q_of (mq_wlow W rfl)) mk_216 rfl rfl rfl rfl rfl h1 h2 hR
  rw [if_neg q4, if_neg q4]
  by_cases q5 : v = 5
  · rw [if_pos q5, if_pos q5]
    exact mq_opn (N0 := mm_pi (mq_N0 (mm_pi N 84 0 0)) 84 13 1) (mq_Q_of (mq_whigh (N := mm_pi (mq_N0 (mm_pi N 84 0 0)) 84 13 1) W.1 rfl)) mk_215 rfl rfl rfl rfl rfl h1 h2 hR
  rw [if_neg q5, if_neg q5]
  by_cases q6 : v = 6
  · rw [if_pos q6, if_pos q6]
    refine mq_opn (N0 := mq_N0 (mm_pi N 84 0 0)) (mq_2_mono (mq_pieces W (by decide) (by show (0 : Int32).toInt ≤ (0 : Int32).toInt; decide) (.inl (show N.1 84 2 = M.1 1 1 from h.1.1.symm))) (fun _ _ _ _ q => ?_) (fun _ _ _ q => q)) mk_218 rfl rfl rfl rfl rfl h1 h2 hR
    rcases q with ⟨_, _, ⟨q, _⟩ | ⟨_, _, q⟩⟩
    · exact mq_S_Q q.1
    · exact absurd (show N.1 84 2 = M.1 1 1 from h.1.1.symm) q
  rw [if_neg q6, if_neg q6]
  by_cases q7 : v = 7
  · rw [if_pos q7, if_pos q7]
    exact mq_opn (N0 := mq_N0 (mm_pi N 84 0 0)) (mq_Q_of (mq_frame W rfl rfl)) mk_219 rfl rfl rfl rfl rfl h1 h2 hR
  rw [if_neg q7, if_neg q7]
  by_cases q8 : v = 8
  · rw [if_pos q8, if_pos q8]
    exact mq_opn (N0 := mq_N0 (mm_pi N 84 0 0)) (mq_Q_of (mq_tags W rfl rfl)) mk_221 rfl rfl rfl rfl rfl h1 h2 hR
  rw [if_neg q8, if_neg q8]
  by_cases q9 : v = 9
  · rw [if_pos q9, if_pos q9]
    exact mq_opn (N0 := mq_N0 (mm_pi N 84 0 0)) (mq_sorted W) mk_223 rfl rfl rfl rfl rfl h1 h2 hR
  rw [if_neg q9, if_neg q9]
  exact mq_opn (N0 := mq_N0 (mm_pi N 84 0 0)) (mq_chances W rfl) mk_237 rfl rfl rfl rfl rfl h1 h2 hR
