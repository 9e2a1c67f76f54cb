/-! THE CALLS: pack -/
theorem mq_L193 {N : mm_M} {n : Nat} (hn : (N.1 84 41).toInt = n) (h : n ≤ 16384) : mq_1 (mf_284_L193 0 N) (fun _ N2 => (∀ s, s < n → N2.1 86 s = N.1 100 s) ∧ mq_kp [(86, none)] N N2) := by
  unfold mf_284_L193
  refine mq_1_L (I := fun (a : Int32) N2 => ∃ k : Nat, k ≤ n ∧ a.toInt = k ∧ (∀ s, s < k → N2.1 86 s = N.1 100 s) ∧ mq_kp [(86, none)] N N2) (m := fun (a : Int32) _ => ((n : Int) - a.toInt).toNat) ?_ ⟨0, by omega, rfl, fun s h => by omega, mq_kp_refl⟩
  rintro x N2 ⟨k, hk, hx, hv, hkp⟩
  unfold mf_284_b193
  rw [(hkp 84 41 rfl).1]
  refine mq_1_ite (fun c => ?_) (fun c => ?_)
  · rw [Int32.lt_iff_toInt_lt, hn] at c
    have e1 : (x + 1).toInt = ((k + 1 : Nat) : Int) := by rw [mi_add]; simp only [Int32.reduceToInt]; omega
    have exn : x.toNatClampNeg = k := by rw [mq_cl]; omega
    rw [if_pos (mq_inr (by omega) (by omega)), if_pos (mq_inr (by omega) (by omega)), exn, (hkp 100 k rfl).1]
    refine mq_1_ret (.inl ⟨_, rfl, ⟨k + 1, by omega, e1, ?_, mq_kp_pi hkp rfl⟩, by omega⟩)
    intro s hs
    by_cases q : s = k
    · subst q; rw [mq_ps]
    · rw [mq_pj q]; exact hv s (by omega)
  · rw [Int32.lt_iff_toInt_lt, hn] at c
    have : k = n := by omega
    subst this
    exact mq_1_ret (.inr ⟨_, rfl, hv, hkp⟩)
/-- what was written becomes the output -/
theorem mq_pend {M N : mm_M} (h : mq_P M N) (hJ : mq_J M N) : mq_2 mq_F (mf_20_j175 M) (mf_284_j179 N) (fun a M2 b N2 => a = b ∧ N2.1 84 0 = N.1 84 0 ∧ mq_J M2 N2) := by
  obtain ⟨⟨hT, m0, hs, hv⟩, _⟩ := h
  unfold mf_20_j175 mf_284_j179
  rcases hs with ⟨c, s1, s2⟩ | ⟨c, s1, s2⟩
  · rw [if_pos s2, if_neg (by rw [Int32.lt_iff_toInt_lt]; simp only [Int32.reduceToInt]; omega)]
    obtain ⟨n, hn⟩ : ∃ n : Nat, (N.1 84 41).toInt = n := ⟨(N.1 84 41).toInt.toNat, by omega⟩
    obtain ⟨_, N2, e, w1, k⟩ := mq_L193 hn (by omega)
    rw [e, mq_Bs]
    have hok : mm_cpok 0 0 (M.1 5 1) 16384 16384 = true := by
      unfold mm_cpok
      rw [s1]
      have d : ¬ N.1 84 41 < 0 := by rw [Int32.lt_iff_toInt_lt]; simp only [Int32.reduceToInt]; omega
      simp only [d, Bool.and_eq_true, decide_eq_true_eq, Bool.not_eq_true', decide_eq_false_iff_not, not_false_eq_true]
      rw [mq_cl, mq_cl]
      simp only [Int32.reduceToInt]
      refine ⟨⟨⟨⟨by decide, by decide⟩, trivial⟩, by omega⟩, by omega⟩
    have x50 : mf_50 (M.1 5 1) M = some (.inl (), (mm_pi (mm_cpM M 6 0 4 0 (M.1 5 1)) 3 1 (M.1 5 1))) := by
      unfold mf_50
      rw [if_neg (by rw [s1, Int32.lt_iff_toInt_lt]; simp only [Int32.reduceToInt]; omega), if_neg (by rw [s1, Int32.lt_iff_toInt_lt]; simp only [Int32.reduceToInt]; omega), if_neg (by rw [s1, Int32.lt_iff_toInt_lt]; simp only [Int32.reduceToInt]; omega), if_pos hok]
    rw [x50, mq_Bs]
    have e41 : N2.1 84 41 = N.1 84 41 := (k 84 41 rfl).1
    rw [e41]
    obtain ⟨jT, jU, ⟨v1, v2, v3, v4, v5, v6⟩, jR, c0, c1⟩ := hJ
    obtain ⟨t1, t2, t3, t4⟩ := jT
    refine mq_2_ret (N := mm_pi N2 84 4 (N.1 84 41)) ⟨s1, (k 84 0 rfl).1, ⟨?_, t2, t3, fun j hj => ?_⟩, ⟨?_, ?_, ?_, fun j hj => ?_⟩, ⟨?_, ?_, ?_, ?_, ?_, ?_⟩, fun i hi => ?_, ?_, ?_⟩
    · show M.1 1 1 = N2.1 84 2
      rw [(k 84 2 rfl).1]; exact t1
    · show M.1 2 j = N2.1 85 j ∧ _
      rw [(k 85 j rfl).1]; exact t4 j hj
    · exact s1
    · show 0 ≤ (M.1 5 1).toInt
      rw [s1]; omega
    · show (M.1 5 1).toInt ≤ 16384
      rw [s1]; omega
    · have hj : (j : Int) < (M.1 5 1).toInt := hj
      have e1 : (mm_pi (mm_cpM M 6 0 4 0 (M.1 5 1)) 3 1 (M.1 5 1)).1 4 j = M.1 6 j := by
        show (mm_cpM M 6 0 4 0 (M.1 5 1)).1 4 j = _
        rw [mq_cp2 (Nat.zero_le _) (by rw [mq_cl (M.1 5 1)]; show j < 0 + _; omega)]
        show M.1 6 (0 + (j - 0)) = _
        rw [Nat.zero_add, Nat.sub_zero]
      have e2 : (mm_pi N2 84 4 (N.1 84 41)).1 86 j = N.1 100 j := w1 j (by rw [s1] at hj; omega)
      rw [e1, e2]
      exact hv j hj
    · show M.1 1 2 = N2.1 84 5
      rw [(k 84 5 rfl).1]; exact v1
    · show M.1 3 2 = N2.1 84 8
      rw [(k 84 8 rfl).1]; exact v2
    · show M.1 3 3 = N2.1 84 9
      rw [(k 84 9 rfl).1]; exact v3
    · show M.1 3 4 = N2.1 84 10
      rw [(k 84 10 rfl).1]; exact v4
    · show M.1 3 5 = N2.1 84 11
      rw [(k 84 11 rfl).1]; exact v5
    · show M.1 3 6 = N2.1 84 12
      rw [(k 84 12 rfl).1]; exact v6
    · show N2.1 89 i = _
      rw [(k 89 i rfl).1]; exact jR i hi
    · show N2.1 101 0 = 100
      rw [(k 101 0 rfl).1]; exact c0
    · show N2.1 101 1 = 64
      rw [(k 101 1 rfl).1]; exact c1
  · rw [if_neg (by rw [s2]; decide), if_pos (by rw [Int32.lt_iff_toInt_lt]; simp only [Int32.reduceToInt]; omega)]
    exact mq_2_ret ⟨rfl, rfl, hJ⟩
theorem mq_pk {α β : Type} {x : mm_O α} {y : mm_O β} {w w2 : List (Nat × Option Nat)} {M0 N0 : mm_M} (h : mq_2 mq_F x y (fun _ M2 _ N2 => mq_P M2 N2)) (kx : mq_K w M0 x) (ky : mq_K w2 N0 y) (hJ : mq_J M0 N0) (h1 : w.all (fun e => decide (e.1 < 1) || decide (4 < e.1)) = true) (h2 : w2.all (fun e => (decide (e.1 < 84) || decide (86 < e.1) || (e.1 == 84 && (match e.2 with | some j => decide (13 ≤ j) | none => false))) && !(e.1 == 89) && !(e.1 == 101)) = true) (h0 : mq_ws w2 84 0 = false) (n0 : N0.1 84 0 = 0) : mq_2 mq_F (mq_w (mm_B x (fun _ M3 => mf_20_j175 M3)) 1) (mm_B y (fun _ M3 => mf_284_j179 M3)) mq_C := by
  refine mq_good ?_
  refine mq_2_Bf (mq_2_Kf h kx ky) ?_
  rintro _ M _ N ⟨p, k1, k2⟩
  refine mq_2_mono (mq_pend p (mq_J_kp hJ k1 k2 h1 h2)) ?_ (fun _ _ _ q => q)
  rintro a M2 b N2 ⟨q1, q2, q3⟩
  exact ⟨q1, by rw [q2, (k2 84 0 h0).1]; exact n0, q3⟩
noncomputable def mq_MW (M : mm_M) : mm_M := mm_pi (mm_pi (mm_pi (mm_pi (mm_pi M 5 2 0) 5 3 0) 5 1 0) 5 4 0) 5 5 0
noncomputable def mq_NW (N : mm_M) : mm_M := mm_pi (mm_pi (mm_pi N 84 41 0) 84 42 0) 84 43 0
theorem mq_PW {M N : mm_M} (h : mq_J M N) : mq_P (mq_MW M) (mq_NW N) := by
  refine ⟨⟨h.1, (by show 0 ≤ (0 : Int32).toInt; decide), .inl ⟨(by show (0 : Int32).toInt ≤ 16384; decide), rfl, rfl⟩, fun j hj => ?_⟩, rfl, (by show 0 ≤ (0 : Int32).toInt; decide), (by show (0 : Int32).toInt < 256; decide), rfl, (by show 0 ≤ (0 : Int32).toInt; decide), (by show (0 : Int32).toInt < 8; decide)⟩
  have hj : (j : Int) < (0 : Int32).toInt := hj
  simp only [Int32.reduceToInt] at hj
  omega
theorem mq_zW {N : mm_M} : mq_z (mq_NW N) = 0 := rfl
theorem mq_pack {M N : mm_M} {v : Int32} (h : mq_J M N) : mq_2 mq_F (mf_7 v M) (mf_284 v N) mq_C := by
  show mq_2 mq_F (mq_w (mf_20 v M) 1) _ _
  by_cases c : v < 0 ∨ 10 < v
  · refine mq_ref h ?_ ?_
    · unfold mf_20 mf_26
      by_cases d : v < 0
      · rw [if_pos d]; rfl
      · rw [if_neg d, if_pos (c.resolve_left d)]; rfl
    · unfold mf_284 mf_284_j15 mf_284_j16
      by_cases d : v < 0
      · rw [if_pos d]; rfl
      · rw [if_neg d, if_pos (c.resolve_left d)]; rfl
  have c1 : ¬ v < 0 := fun q => c (.inl q)
  have c2 : ¬ 10 < v := fun q => c (.inr q)
  have e1 : mf_26 v M = some (.inl (), M) := by unfold mf_26; rw [if_neg c1, if_neg c2]
  have e2 : mf_55 M = some (.inl (), mq_MW M) := rfl
  have e4 : mf_284 v N = mf_284_j16 v 1 N := by unfold mf_284; rw [if_neg c1, if_neg c2]
  rw [e4]
  unfold mf_20 mf_284_j16
  rw [e1, mq_Bs, e2, mq_Bs, mq_174_1, mq_Bs, if_neg (show ¬ (1 : Int32) = 0 from by decide)]
  have hJ0 := mq_J_0 (v := 0) h
  have P := mq_PW hJ0
  have J : mq_J (mq_MW M) (mq_NW (mm_pi N 84 0 0)) := hJ0
  have Z : mq_z (mq_NW (mm_pi N 84 0 0)) = 0 := rfl
  by_cases q0 : v = 0
  · rw [if_pos q0, if_pos q0]
    exact mq_pk (N0 := mq_NW (mm_pi N 84 0 0)) (mq_pruns P (by show (0 : Int) ≤ 1000; decide)) mk_127 mk_252 J rfl rfl rfl rfl
  rw [if_neg q0, if_neg q0]
  by_cases q1 : v = 1
  · rw [if_pos q1, if_pos q1, q1]
    exact mq_pk (N0 := mq_NW (mm_pi N 84 0 0)) (mq_pblock1 P rfl (by show (0 : Int) ≤ 1000; decide)) mk_91 mk_285 J rfl rfl rfl rfl
  rw [if_neg q1, if_neg q1]
  by_cases q2 : v = 2
  · rw [if_pos q2, if_pos q2, q2]
    exact mq_pk (N0 := mq_NW (mm_pi N 84 0 0)) (mq_pwrapped P rfl (by show (0 : Int) ≤ 1000; decide)) mk_89 mk_285 J rfl rfl rfl rfl
  rw [if_neg q2, if_neg q2]
  by_cases q3 : v = 3
  · rw [if_pos q3, if_pos q3, q3]
    exact mq_pk (N0 := mq_NW (mm_pi N 84 0 0)) (mq_pfile P rfl (by show (0 : Int) ≤ 1000; decide)) mk_90 mk_285 J rfl rfl rfl rfl
  rw [if_neg q3, if_neg q3]
  by_cases q4 : v = 4
  · rw [if_pos q4, if_pos q4, ← mq_Ba]
    exact mq_pk (N0 := mm_pi (mq_NW (mm_pi N 84 0 0)) 84 13 0) (w2 := [(84, some 41), (84, some 42), (84, some 43), (91, none), (92, none), (100, none)]) (mq_pwlow (N := mm_pi (mq_NW (mm_pi N 84 0 0)) 84 13 0) P rfl rfl (by show (0 : Int) ≤ 100; decide)) mk_112 (mq_K_B (mq_K_call mk_245 mq_kp_refl rfl) (fun _ N2 k => mq_K_call mk_261 k rfl)) J rfl rfl rfl rfl
  rw [if_neg q4, if_neg q4]
  by_cases q5 : v = 5
  · rw [if_pos q5, if_pos q5]
    exact mq_pk (N0 := mm_pi (mq_NW (mm_pi N 84 0 0)) 84 13 1) (mq_pwhigh (N := mm_pi (mq_NW (mm_pi N 84 0 0)) 84 13 1) P rfl (by show (0 : Int) ≤ 100; decide)) mk_113 mk_261 J rfl rfl rfl rfl
  rw [if_neg q5, if_neg q5]
  by_cases q6 : v = 6
  · rw [if_pos q6, if_pos q6]
    exact mq_pk (N0 := mq_NW (mm_pi N 84 0 0)) (mq_2_mono (mq_ppieces P (by show (0 : Int) ≤ 100000; decide)) (fun _ _ _ _ q => q.1) (fun _ _ _ q => q)) mk_129 mk_265 J rfl rfl rfl rfl
  rw [if_neg q6, if_neg q6]
  by_cases q7 : v = 7
  · rw [if_pos q7, if_pos q7]
    exact mq_pk (N0 := mq_NW (mm_pi N 84 0 0)) (mq_pframe P rfl rfl rfl h.2.2.2.2.1 h.2.2.2.2.2) mk_133 mk_266 J rfl rfl rfl rfl
  rw [if_neg q7, if_neg q7]
  by_cases q8 : v = 8
  · rw [if_pos q8, if_pos q8]
    exact mq_pk (N0 := mq_NW (mm_pi N 84 0 0)) (mq_ptags P (by show (0 : Int) ≤ 1000; decide)) mk_135 mk_269 J rfl rfl rfl rfl
  rw [if_neg q8, if_neg q8]
  by_cases q9 : v = 9
  · rw [if_pos q9, if_pos q9]
    exact mq_pk (N0 := mq_NW (mm_pi N 84 0 0)) (mq_psorted P (by show (0 : Int) ≤ 1000; decide)) mk_147 mk_276 J rfl rfl rfl rfl
  rw [if_neg q9, if_neg q9]
  exact mq_pk (N0 := mq_NW (mm_pi N 84 0 0)) (mq_pchances P rfl rfl rfl) mk_171 mk_283 J rfl rfl rfl rfl
