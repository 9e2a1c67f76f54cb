/-! THE CALLS: length, the joining -/
def mq_hf (M N : mm_M) (n : Nat) : Prop := (∀ i, i < n → M.1 82 i = N.1 108 i ∧ 0 ≤ (M.1 82 i).toInt) ∧ (∀ i, i < n → M.1 83 i = N.1 109 i) ∧ (∀ i, i < n → M.1 83 i = 0 ∨ ∃ t : Nat, (M.1 83 i).toInt = t ∧ i < t ∧ 256 ≤ t ∧ t < n) ∧ (∀ i, n ≤ i → i < 512 → (i < 511 → M.1 83 i = 0) ∧ N.1 109 i = 0) ∧ mc_sum (mt_fw M) n ≤ 10000
/-- two are joined -/
theorem mq_join2 {M N : mm_M} {n c : Nat} {v : Int32} (h : mq_hf M N n) (hv : v.toInt = n) (hn0 : 256 ≤ n) (hn : n < 511) (hc : mc_sum (mt_fr M) n = c) (c2 : 2 ≤ c) : ∃ (j1 j2 : Nat) (r1 r3 : Int32), j1 < n ∧ j2 < n ∧ r1.toInt = j1 ∧ r3.toInt = j2 ∧ mf_37 v (-1) M = some (.inl r1, M) ∧ mf_37 v r1 M = some (.inl r3, M) ∧ mf_288 v N = some (.inl r1, N) ∧ mf_288 v (mm_pi N 109 j1 v) = some (.inl r3, mm_pi N 109 j1 v) ∧
    mq_hf (mm_pi (mm_pi (mm_pi M 82 n (M.1 82 j1 + M.1 82 j2)) 83 j1 v) 83 j2 v) (mm_pi (mm_pi (mm_pi N 109 j1 v) 109 j2 v) 108 n (N.1 108 j1 + N.1 108 j2)) (n + 1) ∧ mc_sum (mt_fr (mm_pi (mm_pi (mm_pi M 82 n (M.1 82 j1 + M.1 82 j2)) 83 j1 v) 83 j2 v)) (n + 1) + 1 = c ∧ 0 < M.1 82 j1 + M.1 82 j2 := by
  obtain ⟨a1, a2, a3, a4, a5⟩ := h
  obtain ⟨r1, x1, y1, q1⟩ := mq_light (M := M) (N := N) (v := v) (but := -1) hv (by omega) (fun i hi => (a1 i hi).1) (fun i x hi hx => by
    have ne : x ≠ -1 := fun z => by rw [z] at hx; simp only [Int32.reduceToInt] at hx; omega
    rw [a2 i hi]
    exact ⟨fun z => z.1, fun z => ⟨z, ne⟩⟩)
  have ex1 : ∃ i, i < n ∧ 0 < mt_fr M i := mc_sum_e (by omega)
  obtain ⟨i1, i2, i3⟩ := ex1
  obtain ⟨f1, f2⟩ := mt_fr_1 i3
  rcases q1 with ⟨_, q1⟩ | ⟨j1, k1, k2, k3, k4⟩
  · exact absurd ⟨f1, by rw [← a2 i1 i2]; exact f2⟩ (q1 i1 i2)
  have k5 : M.1 83 j1 = 0 := by rw [a2 j1 k1]; exact k4
  have fj1 : mt_fr M j1 = 1 := by unfold mt_fr; rw [if_pos ⟨k3, k5⟩]
  have v0 : ¬ v = 0 := fun z => by rw [z] at hv; simp only [Int32.reduceToInt] at hv; omega
  obtain ⟨r3, x3, y3, q3⟩ := mq_light (M := M) (N := mm_pi N 109 j1 v) (v := v) (but := r1) hv (by omega) (fun i hi => (a1 i hi).1) (fun i x hi hx => by
    by_cases z : i = j1
    · subst z
      rw [mq_ps]
      have : x = r1 := Int32.toInt_inj.mp (by omega)
      exact ⟨fun w => absurd this w.2, fun w => absurd w v0⟩
    · rw [mq_pj z, ← a2 i hi]
      have ne : x ≠ r1 := fun w => by rw [w] at hx; omega
      exact ⟨fun w => w.1, fun w => ⟨w, ne⟩⟩)
  have ex2 : ∃ i, i < n ∧ 0 < (if i = j1 then 0 else mt_fr M i) := mc_sum_e (by have := mc_sum_d (g := mt_fr M) k1; omega)
  obtain ⟨i4, i5, i6⟩ := ex2
  have i7 : i4 ≠ j1 := fun z => by rw [if_pos z] at i6; omega
  rw [if_neg i7] at i6
  obtain ⟨f3, f4⟩ := mt_fr_1 i6
  rcases q3 with ⟨_, q3⟩ | ⟨j2, m1, m2, m3, m4⟩
  · exact absurd ⟨f3, by rw [mq_pj i7, ← a2 i4 i5]; exact f4⟩ (q3 i4 i5)
  have ne : j2 ≠ j1 := fun z => by rw [z, mq_ps] at m4; exact v0 m4
  rw [mq_pj ne] at m4
  have m5 : M.1 83 j2 = 0 := by rw [a2 j2 m1]; exact m4
  have fj2 : mt_fr M j2 = 1 := by unfold mt_fr; rw [if_pos ⟨m3, m5⟩]
  -- the weights
  have w1 : mt_fw M j1 = (M.1 82 j1).toInt.toNat := by unfold mt_fw; rw [if_pos ⟨k3, k5⟩]
  have w2 : mt_fw M j2 = (M.1 82 j2).toInt.toNat := by unfold mt_fw; rw [if_pos ⟨m3, m5⟩]
  have d1 := mc_sum_d (g := mt_fw M) (n := n) k1
  have d2 := mc_sum_d (g := fun i => if i = j1 then 0 else mt_fw M i) (n := n) m1
  rw [if_neg ne] at d2
  have e1 := mc_sum_d (g := mt_fr M) (n := n) k1
  have e2 := mc_sum_d (g := fun i => if i = j1 then 0 else mt_fr M i) (n := n) m1
  rw [if_neg ne] at e2
  rw [Int32.lt_iff_toInt_lt] at k3 m3
  simp only [Int32.reduceToInt] at k3 m3
  have sw : (M.1 82 j1 + M.1 82 j2).toInt = (M.1 82 j1).toInt + (M.1 82 j2).toInt := by rw [mi_add]; omega
  have sp : 0 < M.1 82 j1 + M.1 82 j2 := by rw [Int32.lt_iff_toInt_lt, sw]; simp only [Int32.reduceToInt]; omega
  -- the new free ones
  have m83 : ∀ i, (mm_pi (mm_pi (mm_pi M 82 n (M.1 82 j1 + M.1 82 j2)) 83 j1 v) 83 j2 v).1 83 i = if i = j2 then v else if i = j1 then v else M.1 83 i := fun i => rfl
  have m82 : ∀ i, (mm_pi (mm_pi (mm_pi M 82 n (M.1 82 j1 + M.1 82 j2)) 83 j1 v) 83 j2 v).1 82 i = if i = n then M.1 82 j1 + M.1 82 j2 else M.1 82 i := fun i => rfl
  have n83 : M.1 83 n = 0 := (a4 n (Nat.le_refl _) (by omega)).1 hn
  have frn : ∀ i, i < n → mt_fr (mm_pi (mm_pi (mm_pi M 82 n (M.1 82 j1 + M.1 82 j2)) 83 j1 v) 83 j2 v) i = if i = j2 then 0 else if i = j1 then 0 else mt_fr M i := by
    intro i hi
    by_cases z : i = j2
    · rw [if_pos z]
      unfold mt_fr
      rw [if_neg]
      rintro ⟨_, w⟩
      rw [m83, if_pos z] at w
      exact v0 w
    · rw [if_neg z]
      by_cases z1 : i = j1
      · rw [if_pos z1]
        unfold mt_fr
        rw [if_neg]
        rintro ⟨_, w⟩
        rw [m83, if_neg z, if_pos z1] at w
        exact v0 w
      · rw [if_neg z1]
        unfold mt_fr
        rw [m82, m83, if_neg (show ¬ i = n by omega), if_neg z, if_neg z1]
  have fwn : ∀ i, i < n → mt_fw (mm_pi (mm_pi (mm_pi M 82 n (M.1 82 j1 + M.1 82 j2)) 83 j1 v) 83 j2 v) i = if i = j2 then 0 else if i = j1 then 0 else mt_fw M i := by
    intro i hi
    by_cases z : i = j2
    · rw [if_pos z]
      unfold mt_fw
      rw [if_neg]
      rintro ⟨_, w⟩
      rw [m83, if_pos z] at w
      exact v0 w
    · rw [if_neg z]
      by_cases z1 : i = j1
      · rw [if_pos z1]
        unfold mt_fw
        rw [if_neg]
        rintro ⟨_, w⟩
        rw [m83, if_neg z, if_pos z1] at w
        exact v0 w
      · rw [if_neg z1]
        unfold mt_fw
        rw [m82, m83, if_neg (show ¬ i = n by omega), if_neg z, if_neg z1]
  have frl : mt_fr (mm_pi (mm_pi (mm_pi M 82 n (M.1 82 j1 + M.1 82 j2)) 83 j1 v) 83 j2 v) n = 1 := by
    unfold mt_fr
    rw [if_pos]
    exact ⟨by rw [m82, if_pos rfl]; exact sp, by rw [m83, if_neg (show ¬ n = j2 by omega), if_neg (show ¬ n = j1 by omega)]; exact n83⟩
  have fwl : mt_fw (mm_pi (mm_pi (mm_pi M 82 n (M.1 82 j1 + M.1 82 j2)) 83 j1 v) 83 j2 v) n = (M.1 82 j1 + M.1 82 j2).toInt.toNat := by
    unfold mt_fw
    rw [if_pos ⟨by rw [m82, if_pos rfl]; exact sp, by rw [m83, if_neg (show ¬ n = j2 by omega), if_neg (show ¬ n = j1 by omega)]; exact n83⟩, m82, if_pos rfl]
  have S1 : mc_sum (mt_fr (mm_pi (mm_pi (mm_pi M 82 n (M.1 82 j1 + M.1 82 j2)) 83 j1 v) 83 j2 v)) (n + 1) = mc_sum (fun i => if i = j2 then 0 else if i = j1 then 0 else mt_fr M i) n + 1 := by
    show mc_sum _ n + mt_fr _ n = _
    rw [frl, mc_sum_c frn]
  have S2 : mc_sum (mt_fw (mm_pi (mm_pi (mm_pi M 82 n (M.1 82 j1 + M.1 82 j2)) 83 j1 v) 83 j2 v)) (n + 1) = mc_sum (fun i => if i = j2 then 0 else if i = j1 then 0 else mt_fw M i) n + (M.1 82 j1 + M.1 82 j2).toInt.toNat := by
    show mc_sum _ n + mt_fw _ n = _
    rw [fwl, mc_sum_c fwn]
  refine ⟨j1, j2, r1, r3, k1, m1, k2, m2, x1, x3, y1, y3, ⟨fun i hi => ?_, fun i hi => ?_, fun i hi => ?_, fun i i0 i1 => ?_, ?_⟩, ?_, sp⟩
  · have n108 : (mm_pi (mm_pi (mm_pi N 109 j1 v) 109 j2 v) 108 n (N.1 108 j1 + N.1 108 j2)).1 108 i = if i = n then N.1 108 j1 + N.1 108 j2 else N.1 108 i := rfl
    rw [m82, n108]
    by_cases z : i = n
    · rw [if_pos z, if_pos z, (a1 j1 k1).1, (a1 j2 m1).1]
      rw [(a1 j1 k1).1, (a1 j2 m1).1] at sw
      refine ⟨rfl, ?_⟩
      rw [← (a1 j1 k1).1, ← (a1 j2 m1).1] at sw ⊢
      omega
    · rw [if_neg z, if_neg z]
      exact a1 i (by omega)
  · have n109 : (mm_pi (mm_pi (mm_pi N 109 j1 v) 109 j2 v) 108 n (N.1 108 j1 + N.1 108 j2)).1 109 i = if i = j2 then v else if i = j1 then v else N.1 109 i := rfl
    rw [m83, n109]
    by_cases z : i = n
    · have z2 : i ≠ j2 := by omega
      have z1 : i ≠ j1 := by omega
      rw [if_neg z2, if_neg z1, if_neg z2, if_neg z1, z, n83, (a4 n (Nat.le_refl _) (by omega)).2]
    · rw [a2 i (by omega)]
  · rw [m83]
    by_cases z : i = j2
    · rw [if_pos z]
      exact .inr ⟨n, hv, by omega, hn0, by omega⟩
    · rw [if_neg z]
      by_cases z1 : i = j1
      · rw [if_pos z1]
        exact .inr ⟨n, hv, by omega, hn0, by omega⟩
      · rw [if_neg z1]
        by_cases z2 : i = n
        · exact .inl (by rw [z2]; exact n83)
        · rcases a3 i (by omega) with w | ⟨t, t1, t2, t3, t4⟩
          · exact .inl w
          · exact .inr ⟨t, t1, t2, t3, by omega⟩
  · have n109 : (mm_pi (mm_pi (mm_pi N 109 j1 v) 109 j2 v) 108 n (N.1 108 j1 + N.1 108 j2)).1 109 i = if i = j2 then v else if i = j1 then v else N.1 109 i := rfl
    rw [m83, n109, if_neg (by omega), if_neg (by omega), if_neg (by omega), if_neg (by omega)]
    exact a4 i (by omega) i1
  · rw [S2]
    omega
  · rw [S1]
    omega
/-- all are joined -/
theorem mq_joins {b v1 : Int32} {oc : Nat} (ho : v1.toInt = oc) (ho1 : oc ≤ 256) : ∀ (c n k : Nat) (M N : mm_M) (vn vk : Int32), vn.toInt = n → vk.toInt = k → 1 ≤ c → k + c = oc + 1 → n = 255 + k → 1 ≤ k → mq_hf M N n → mc_sum (mt_fr M) n = c → (256 < n → 0 < M.1 82 (n - 1) ∧ M.1 83 (n - 1) = 0) → ∃ (M2 N2 : mm_M) (vm : Int32) (m j : Nat), mf_36_L6 v1 (vn, vk) M = some (.inl (.inr ()), M2) ∧ mf_289_L102 b (vn, 1) N = some (.inl vm, N2) ∧ vm.toInt = m ∧ m = 255 + oc ∧ j < m ∧ (256 < m → j = m - 1) ∧ M2.1 83 j = 0 ∧ N2.1 109 j = vm ∧ (∀ i, i < m → i ≠ j → M2.1 83 i = N2.1 109 i) ∧ (∀ i, i < m → M2.1 83 i = 0 ∨ ∃ t : Nat, (M2.1 83 i).toInt = t ∧ i < t ∧ 256 ≤ t ∧ t < m) ∧ mq_kp [(82, none), (83, none)] M M2 ∧ mq_kp [(108, none), (109, none)] N N2 := by
  intro c
  induction c with
  | zero => intro n k M N vn vk _ _ h; omega
  | succ c ih =>
    intro n k M N vn vk hn hk _ kc nk k1 hf hc hlast
    have e1 : mf_36_L6 v1 (vn, vk) M = mm_B (mf_36_b6 v1 vn vk M) (mm_nx (mm_L (fun s M => mf_36_b6 v1 s.1 s.2 M))) := mm_L_eq _ _ _
    have e2 : ∀ s N, mf_289_L102 b s N = mm_B (mf_289_b102 b s.1 s.2 N) (mm_nx (mm_L (fun s M => mf_289_b102 b s.1 s.2 M))) := fun s N => mm_L_eq _ _ _
    by_cases c1 : c = 0
    · subst c1
      -- one is left
      obtain ⟨a1, a2, a3, a4, a5⟩ := hf
      obtain ⟨r1, _, y1, q1⟩ := mq_light (M := M) (N := N) (v := vn) (but := -1) hn (by omega) (fun i hi => (a1 i hi).1) (fun i x hi hx => by
        have ne : x ≠ -1 := fun z => by rw [z] at hx; simp only [Int32.reduceToInt] at hx; omega
        rw [a2 i hi]
        exact ⟨fun z => z.1, fun z => ⟨z, ne⟩⟩)
      obtain ⟨i1, i2, i3⟩ := mc_sum_e (g := mt_fr M) (n := n) (by omega)
      obtain ⟨f1, f2⟩ := mt_fr_1 i3
      rcases q1 with ⟨_, q1⟩ | ⟨j, k2, k3, k4, k5⟩
      · exact absurd ⟨f1, by rw [← a2 i1 i2]; exact f2⟩ (q1 i1 i2)
      have k6 : M.1 83 j = 0 := by rw [a2 j k2]; exact k5
      have fj : mt_fr M j = 1 := by unfold mt_fr; rw [if_pos ⟨k4, k6⟩]
      have dz := mc_sum_z (g := fun i => if i = j then 0 else mt_fr M i) (n := n) (by have := mc_sum_d (g := mt_fr M) k2; omega)
      have only : ∀ i, i < n → i ≠ j → ¬ (0 < M.1 82 i ∧ M.1 83 i = 0) := fun i hi ne q => by
        have z := dz i hi
        try dsimp only at z
        rw [if_neg ne] at z
        unfold mt_fr at z
        rw [if_pos q] at z
        omega
      have v0 : ¬ vn = 0 := fun z => by rw [z] at hn; simp only [Int32.reduceToInt] at hn; omega
      obtain ⟨r3, _, y3, q3⟩ := mq_light (M := M) (N := mm_pi N 109 j vn) (v := vn) (but := r1) hn (by omega) (fun i hi => (a1 i hi).1) (fun i x hi hx => by
        by_cases z : i = j
        · subst z
          rw [mq_ps]
          have : x = r1 := Int32.toInt_inj.mp (by omega)
          exact ⟨fun w => absurd this w.2, fun w => absurd w v0⟩
        · rw [mq_pj z, ← a2 i hi]
          have ne : x ≠ r1 := fun w => by rw [w] at hx; omega
          exact ⟨fun w => w.1, fun w => ⟨w, ne⟩⟩)
      have r3m : r3 = -1 := by
        rcases q3 with ⟨q3, _⟩ | ⟨j2, m1, m2, m3, m4⟩
        · exact q3
        · exfalso
          by_cases z : j2 = j
          · rw [z, mq_ps] at m4; exact v0 m4
          · rw [mq_pj z, ← a2 j2 m1] at m4
            exact only j2 m1 z ⟨m3, m4⟩
      subst r3m
      have nr : r1.toNatClampNeg = j := by rw [mq_cl]; omega
      refine ⟨M, mm_pi N 109 j vn, vn, n, j, ?_, ?_, hn, by omega, k2, fun hm => ?_, k6, mq_ps, fun i hi ne => by rw [mq_pj ne]; exact a2 i hi, a3, mq_kp_refl, mq_kp_pi mq_kp_refl rfl⟩
      · rw [e1]
        unfold mf_36_b6
        rw [if_neg (by rw [Int32.lt_iff_toInt_lt]; omega)]
        rfl
      · rw [e2]
        unfold mf_289_b102 mf_289_j139
        dsimp only
        rw [if_neg (by decide), y1, mq_Bs, if_pos (mq_inr (by omega) (by omega)), nr, y3, mq_Bs, if_pos rfl, if_pos rfl]
        show mf_289_L102 b (vn, 0) _ = _
        rw [e2]
        unfold mf_289_b102
        rw [if_pos rfl]
        rfl
      · have := hlast hm
        by_cases z : j = n - 1
        · exact z
        · exact absurd this (only (n - 1) (by omega) (fun w => z w.symm))
    · obtain ⟨j1, j2, r1, r3, l1, l2, w1, w2, x1, x3, y1, y3, hf2, hc2, sp⟩ := mq_join2 (v := vn) hf hn (by omega) (by omega) hc (by omega)
      have n1 : r1.toNatClampNeg = j1 := by rw [mq_cl]; omega
      have n3 : r3.toNatClampNeg = j2 := by rw [mq_cl]; omega
      have nv : vn.toNatClampNeg = n := by rw [mq_cl]; omega
      have ev : (vn + 1).toInt = ((n + 1 : Nat) : Int) := by rw [mi_add]; simp only [Int32.reduceToInt]; omega
      have ek : (vk + 1).toInt = ((k + 1 : Nat) : Int) := by rw [mi_add]; simp only [Int32.reduceToInt]; omega
      have xb : mf_36_b6 v1 vn vk M = some (.inl (.inl (vn + 1, vk + 1)), (mm_pi (mm_pi (mm_pi M 82 n (M.1 82 j1 + M.1 82 j2)) 83 j1 vn) 83 j2 vn)) := by
        unfold mf_36_b6
        rw [if_pos (by rw [Int32.lt_iff_toInt_lt]; omega), if_pos (by rw [Int32.lt_iff_toInt_lt]; simp only [Int32.reduceToInt]; omega), x1, mq_Bs, x3, mq_Bs, if_neg (by rw [Int32.lt_iff_toInt_lt]; simp only [Int32.reduceToInt]; omega), if_neg (by rw [Int32.lt_iff_toInt_lt]; simp only [Int32.reduceToInt]; omega), if_pos (mq_inr (by omega) (by omega)), if_pos (mq_inr (by omega) (by omega)), if_pos (mq_inr (by omega) (by omega)), if_pos (mq_inr (by omega) (by omega)), if_pos (mq_inr (by omega) (by omega)), n1, n3, nv]
      have rn : ¬ r3 = -1 := fun z => by rw [z] at w2; simp only [Int32.reduceToInt] at w2; omega
      have yb : mf_289_b102 b vn 1 N = some (.inl (.inl (vn + 1, 1)), (mm_pi (mm_pi (mm_pi N 109 j1 vn) 109 j2 vn) 108 n (N.1 108 j1 + N.1 108 j2))) := by
        unfold mf_289_b102 mf_289_j139
        rw [if_neg (by decide), y1, mq_Bs, if_pos (mq_inr (by omega) (by omega)), n1, y3, mq_Bs, if_neg rn, if_neg (by decide), if_pos (mq_inr (by omega) (by omega)), if_pos (mq_inr (by omega) (by omega)), if_pos (mq_inr (by omega) (by omega)), if_pos (mq_inr (by omega) (by omega)), n3, nv]
        rfl
      have nl : ∀ z, z = n → 0 < (mm_pi (mm_pi (mm_pi M 82 n (M.1 82 j1 + M.1 82 j2)) 83 j1 vn) 83 j2 vn).1 82 z ∧ (mm_pi (mm_pi (mm_pi M 82 n (M.1 82 j1 + M.1 82 j2)) 83 j1 vn) 83 j2 vn).1 83 z = 0 := by
        rintro z rfl
        have m83 : (mm_pi (mm_pi (mm_pi M 82 z (M.1 82 j1 + M.1 82 j2)) 83 j1 vn) 83 j2 vn).1 83 z = if z = j2 then vn else if z = j1 then vn else M.1 83 z := rfl
        have m82 : (mm_pi (mm_pi (mm_pi M 82 z (M.1 82 j1 + M.1 82 j2)) 83 j1 vn) 83 j2 vn).1 82 z = if z = z then M.1 82 j1 + M.1 82 j2 else M.1 82 z := rfl
        rw [m82, m83, if_pos rfl, if_neg (by omega), if_neg (by omega)]
        exact ⟨sp, (hf.2.2.2.1 z (Nat.le_refl _) (by omega)).1 (by omega)⟩
      obtain ⟨M2, N2, vm, m, j, z1, z2, z3, z4, z5, z6, z7, z8, z9, z10, z11, z12⟩ := ih (n + 1) (k + 1) _ _ (vn + 1) (vk + 1) ev ek (by omega) (by omega) (by omega) (by omega) hf2 (by omega) (fun _ => nl (n + 1 - 1) (by omega))
      refine ⟨M2, N2, vm, m, j, ?_, ?_, z3, z4, z5, z6, z7, z8, z9, z10, mq_kp_trans (mq_kp_pi (mq_kp_pi (mq_kp_pi mq_kp_refl rfl) rfl) rfl) z11, mq_kp_trans (mq_kp_pi (mq_kp_pi (mq_kp_pi mq_kp_refl rfl) rfl) rfl) z12⟩
      · rw [e1, xb]
        exact z1
      · rw [e2]
        dsimp only
        rw [yb]
        exact z2
