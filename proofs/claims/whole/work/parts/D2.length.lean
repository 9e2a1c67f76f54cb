/-! THE CALLS: length -/
theorem mq_zero2 {N : mm_M} {v : Int32} : mq_1 (mf_289_L27 v 0 N) (fun _ N2 => (∀ i, i < 512 → N2.1 108 i = 0 ∧ N2.1 109 i = 0) ∧ mq_kp [(108, none), (109, none)] N N2) := by
  unfold mf_289_L27
  refine mq_1_L (I := fun (a : Int32) N2 => ∃ k : Nat, k ≤ 512 ∧ a.toInt = k ∧ (∀ i, i < k → N2.1 108 i = 0 ∧ N2.1 109 i = 0) ∧ mq_kp [(108, none), (109, none)] N N2) (m := fun (a : Int32) _ => (512 - a.toInt).toNat) ?_ ⟨0, by omega, rfl, fun i h => absurd h (Nat.not_lt_zero _), mq_kp_refl⟩
  rintro x N2 ⟨k, hk, hx, h1, hkp⟩
  unfold mf_289_b27
  by_cases c : x < 512
  · rw [if_pos c]
    rw [Int32.lt_iff_toInt_lt] at c
    simp only [Int32.reduceToInt] at c
    have e1 : (x + 1).toInt = ((k + 1 : Nat) : Int) := by rw [mi_add]; simp only [Int32.reduceToInt]; omega
    have nx : x.toNatClampNeg = k := by rw [mq_cl]; omega
    rw [if_pos (mq_inr (by omega) (by omega)), if_pos (mq_inr (by omega) (by omega)), nx]
    refine mq_1_ret (.inl ⟨_, rfl, ⟨k + 1, by omega, e1, fun i hi => ?_, mq_kp_pi (mq_kp_pi hkp rfl) rfl⟩, by omega⟩)
    show (mm_pi N2 108 k 0).1 108 i = 0 ∧ (mm_pi (mm_pi N2 108 k 0) 109 k 0).1 109 i = 0
    by_cases q : i = k
    · rw [q, mq_ps, mq_ps]; exact ⟨rfl, rfl⟩
    · rw [mq_pj q, mq_pj q]; exact h1 i (by omega)
  · rw [if_neg c]
    rw [Int32.lt_iff_toInt_lt] at c
    simp only [Int32.reduceToInt] at c
    exact mq_1_ret (.inr ⟨_, rfl, fun i hi => h1 i (by omega), hkp⟩)
/-- the weights -/
theorem mq_weigh {M N : mm_M} {v : Int32} (hT : mq_T M N) (h0 : ∀ i, i < 511 → M.1 82 i = 0) (g0 : ∀ i, i < 512 → N.1 108 i = 0) : mq_2 mq_F (mf_35_L18 0 M) (mf_289_L56 v 0 N) (fun _ M2 _ N2 => (∀ i, i < 256 → M2.1 82 i = N2.1 108 i ∧ 0 ≤ (M2.1 82 i).toInt) ∧ mc_sum (fun i => (M2.1 82 i).toInt.toNat) 256 ≤ 10000 ∧ mq_kp [(82, none)] M M2 ∧ mq_kp [(108, none)] N N2) := by
  obtain ⟨t1, t2, t3, t4⟩ := hT
  unfold mf_35_L18 mf_289_L56
  refine mq_2_Lf (I := fun (a : Int32) M2 (b : Int32) N2 => a = b ∧ ∃ k : Nat, a.toInt = k ∧ (k : Int) ≤ (M.1 1 1).toInt ∧ (∀ i, i < 256 → M2.1 82 i = N2.1 108 i ∧ 0 ≤ (M2.1 82 i).toInt) ∧ mc_sum (fun i => (M2.1 82 i).toInt.toNat) 256 = k ∧ mq_kp [(82, none)] M M2 ∧ mq_kp [(108, none)] N N2) (m := fun a _ => ((M.1 1 1).toInt - a.toInt).toNat) ?_ ⟨rfl, 0, rfl, t2, fun i hi => by rw [h0 i (by omega), g0 i (by omega)]; exact ⟨rfl, by decide⟩, mc_sum_0 (fun i hi => by rw [h0 i (by omega)]; rfl), mq_kp_refl, mq_kp_refl⟩
  rintro a M2 b N2 ⟨rfl, k, ha, hk, h1, hs, k1, k2⟩
  unfold mf_35_b18 mf_289_b56
  rw [(k1 1 1 rfl).1, (k2 84 2 rfl).1, ← t1]
  by_cases c : a < M.1 1 1
  · rw [if_pos c, if_pos c]
    rw [Int32.lt_iff_toInt_lt] at c
    have na : a.toNatClampNeg = k := by rw [mq_cl]; omega
    have e1 : (a + 1).toInt = ((k + 1 : Nat) : Int) := by rw [mi_add]; simp only [Int32.reduceToInt]; omega
    obtain ⟨q1, q2, q3⟩ := t4 k (by omega)
    obtain ⟨b, hb⟩ : ∃ b : Nat, (M.1 2 k).toInt = b := ⟨(M.1 2 k).toInt.toNat, by omega⟩
    have nb : (M.1 2 k).toNatClampNeg = b := by rw [mq_cl]; omega
    have hin : mm_in a 10000 = true := mq_inr (by omega) (by omega)
    rw [if_pos hin, if_pos hin, na, (k1 2 k rfl).1, (k2 85 k rfl).1, ← q1, if_pos (mq_inr (by omega) (by omega)), if_pos (mq_inr (by omega) (by omega)), if_pos (mq_inr (by omega) (by omega)), if_pos (mq_inr (by omega) (by omega)), nb]
    obtain ⟨w1, w2⟩ := h1 b (by omega)
    have wl := mc_sum_l (g := fun i => (M2.1 82 i).toInt.toNat) (n := 256) (j := b) (by omega)
    have ew : (M2.1 82 b + 1).toInt = (M2.1 82 b).toInt + 1 := by rw [mi_add]; simp only [Int32.reduceToInt]; omega
    refine mq_2_ret (.inl ⟨_, _, rfl, rfl, ⟨rfl, k + 1, e1, by omega, fun i hi => ?_, ?_, mq_kp_pi k1 rfl, mq_kp_pi k2 rfl⟩, by omega⟩)
    · by_cases z : i = b
      · rw [z, mq_ps, mq_ps, w1]
        rw [w1] at ew w2
        exact ⟨rfl, by omega⟩
      · rw [mq_pj z, mq_pj z]; exact h1 i hi
    · have u := mc_sum_v (f := fun i => (M2.1 82 i).toInt.toNat) (g := fun i => ((mm_pi M2 82 b (M2.1 82 b + 1)).1 82 i).toInt.toNat) (i := b) (n := 256) (by omega) (fun i _ ne => by rw [mq_pj ne])
      have e3 : ((mm_pi M2 82 b (M2.1 82 b + 1)).1 82 b).toInt.toNat = (M2.1 82 b).toInt.toNat + 1 := by rw [mq_ps, ew]; omega
      try dsimp only at u
      rw [e3] at u
      omega
  · rw [if_neg c, if_neg c]
    exact mq_2_ret (.inr ⟨_, _, rfl, rfl, h1, by omega, k1, k2⟩)
theorem mq_L57 {M : mm_M} (h : ∀ i, i < 256 → M.1 83 i = 0) : ∃ r, mf_35_L57 (0, 0) M = some (.inl r, M) ∧ r.toInt = mc_sum (mt_fr M) 256 := by
  apply mq_1_is
  unfold mf_35_L57
  refine mq_1_L (I := fun (s : Int32 × Int32) M2 => M2 = M ∧ ∃ k : Nat, s.2.toInt = k ∧ k ≤ 256 ∧ s.1.toInt = mc_sum (mt_fr M) k) (m := fun s _ => (256 - s.2.toInt).toNat) ?_ ⟨rfl, 0, rfl, by omega, rfl⟩
  rintro ⟨x, y⟩ M2 ⟨rfl, k, hy, hk, hx⟩
  dsimp only at hy hx ⊢
  unfold mf_35_b57
  by_cases c : y < 256
  · rw [if_pos c]
    rw [Int32.lt_iff_toInt_lt] at c
    simp only [Int32.reduceToInt] at c
    have ny : y.toNatClampNeg = k := by rw [mq_cl]; omega
    have e1 : (y + 1).toInt = ((k + 1 : Nat) : Int) := by rw [mi_add]; simp only [Int32.reduceToInt]; omega
    have ml : mc_sum (mt_fr M2) k ≤ k := by
      have : mc_sum (mt_fr M2) k ≤ mc_sum (fun _ => 1) k := mc_sum_le (fun j _ => by unfold mt_fr; split <;> omega)
      rw [mc_sum_one] at this
      exact this
    have es : mc_sum (mt_fr M2) (k + 1) = mc_sum (mt_fr M2) k + mt_fr M2 k := rfl
    rw [if_pos (mq_inr (by omega) (by omega)), ny]
    by_cases d : 0 < M2.1 82 k
    · rw [if_pos d]
      have f1 : mt_fr M2 k = 1 := by unfold mt_fr; rw [if_pos ⟨d, h k (by omega)⟩]
      refine mq_1_ret (.inl ⟨_, rfl, ⟨rfl, k + 1, e1, by omega, ?_⟩, by dsimp only; omega⟩)
      dsimp only
      rw [es, f1, mi_add, hx]
      simp only [Int32.reduceToInt]
      omega
    · rw [if_neg d]
      have f1 : mt_fr M2 k = 0 := by unfold mt_fr; rw [if_neg (fun z => d z.1)]
      exact mq_1_ret (.inl ⟨_, rfl, ⟨rfl, k + 1, e1, by omega, by dsimp only; rw [es, f1]; exact hx⟩, by dsimp only; omega⟩)
  · rw [if_neg c]
    rw [Int32.lt_iff_toInt_lt] at c
    simp only [Int32.reduceToInt] at c
    have : k = 256 := by omega
    subst this
    exact mq_1_ret (.inr ⟨_, rfl, rfl, hx⟩)
/-- how deep -/
theorem mq_deep {M N : mm_M} {v : Int32} {m b : Nat} (hv : v.toInt = b) (hb : b < m) (hm : m ≤ 511) (h1 : ∀ i, i < m → M.1 83 i = N.1 109 i) (h2 : ∀ i, i < m → M.1 83 i = 0 ∨ ∃ t : Nat, (M.1 83 i).toInt = t ∧ i < t ∧ 256 ≤ t ∧ t < m) : ∃ r, mf_38_L12 (0, M.1 83 b, 0) M = some (.inl r, M) ∧ mf_289_L203 (0, v) N = some (.inl r, N) := by
  have L : mq_2 mq_F (mf_38_L12 (0, M.1 83 b, 0) M) (mf_289_L203 (0, v) N) (fun r M2 s N2 => r = s ∧ M2 = M ∧ N2 = N) := by
    unfold mf_38_L12 mf_289_L203
    refine mq_2_Lf (I := fun (a : Int32 × Int32 × Int32) M2 (s : Int32 × Int32) N2 => a.1 = s.1 ∧ M2 = M ∧ N2 = N ∧ ∃ q k : Nat, s.2.toInt = q ∧ q < m ∧ a.2.1 = M.1 83 q ∧ a.2.2.toInt = k ∧ (k = 0 ∨ 255 + k ≤ q)) (m := fun a _ => (600 - a.2.2.toInt).toNat) ?_ ⟨rfl, rfl, rfl, b, 0, hv, hb, rfl, rfl, .inl rfl⟩
    rintro ⟨d, t, k'⟩ M2 ⟨l, x⟩ N2 ⟨e, rfl, rfl, q, k, hx, hq, ht, hk, hkq⟩
    dsimp only at e hx ht hk ⊢
    subst e
    unfold mf_38_b12 mf_289_b203
    have nx : x.toNatClampNeg = q := by rw [mq_cl]; omega
    have i2 : mm_in x 512 = true := mq_inr (by omega) (by omega)
    rw [if_pos (by rw [Int32.lt_iff_toInt_lt]; simp only [Int32.reduceToInt]; omega), if_pos i2, if_pos i2, nx, ← h1 q hq, ht]
    have ek : (k' + 1).toInt = ((k + 1 : Nat) : Int) := by rw [mi_add]; simp only [Int32.reduceToInt]; omega
    by_cases c : 0 < M2.1 83 q
    · rw [if_pos c, if_pos c]
      rw [Int32.lt_iff_toInt_lt] at c
      simp only [Int32.reduceToInt] at c
      rcases h2 q hq with z | ⟨u, u1, u2, u3, u4⟩
      · rw [z] at c; simp only [Int32.reduceToInt] at c; omega
      · have nt : (M2.1 83 q).toNatClampNeg = u := by rw [mq_cl]; omega
        rw [if_pos (mq_inr (by omega) (by omega)), nt]
        exact mq_2_ret (.inl ⟨_, _, rfl, rfl, ⟨rfl, rfl, rfl, u, k + 1, u1, u4, rfl, ek, .inr (by omega)⟩, by dsimp only; omega⟩)
    · rw [if_neg c, if_neg c]
      exact mq_2_ret (.inr ⟨_, _, rfl, rfl, rfl, rfl, rfl⟩)
  obtain ⟨b, N2, e, q⟩ := L
  rcases q with ⟨a, M2, e1, rfl, rfl, rfl⟩ | ⟨_, _, q⟩
  · exact ⟨_, e1, e⟩
  · exact q.elim
theorem mq_length {M N : mm_M} {v : Int32} (h : mq_J M N) : mq_2 mq_F (mf_9 v M) (mf_289 v N) mq_C := by
  show mq_2 mq_F (mq_w (mf_23 v M) 1) _ _
  by_cases c : v < 0
  · unfold mf_23 mf_289
    rw [if_pos c, if_pos c]; exact mq_ref h rfl rfl
  by_cases d : 255 < v
  · unfold mf_23 mf_289
    rw [if_neg c, if_neg c, if_pos d, if_pos d]; exact mq_ref h rfl rfl
  have e1 : mf_23 v M = mm_B (mf_35 M) (fun r1 M2 => if mm_in v 511 then if (M2.1 82 v.toNatClampNeg) = 0 then (some (.inl (0 : Int32), M2)) else (if r1 = (1 : Int32) then (some (.inl (1 : Int32), M2)) else (mm_B (mf_36 r1 M2) (fun _ M3 => mm_B (mf_38 v M3) (fun r4 M5 => some (.inl r4, M5))))) else none) := by unfold mf_23; rw [if_neg c, if_neg d]
  have e2 : mf_289 v N = mf_289_j17 v 1 N := by unfold mf_289; rw [if_neg c, if_neg d]
  rw [e1, e2]
  clear e1 e2
  rw [Int32.lt_iff_toInt_lt] at c d
  simp only [Int32.reduceToInt] at c d
  obtain ⟨b, hb⟩ : ∃ b : Nat, v.toInt = b := ⟨v.toInt.toNat, by omega⟩
  have nv : v.toNatClampNeg = b := by rw [mq_cl]; omega
  have jN := mq_J_0 (v := 0) h
  unfold mf_289_j17 mf_35
  rw [mq_174_1, mq_Bs, if_neg (show ¬ (1 : Int32) = 0 from by decide)]
  obtain ⟨_, M1, x1, a1, k1⟩ := mq_fill (M := M) (q := 82) (n := 511) (v := 0) (by decide)
  obtain ⟨_, M2, x2, a2, k2⟩ := mq_fill (M := M1) (q := 83) (n := 511) (v := 0) (by decide)
  obtain ⟨_, N1, y1, b1, l1⟩ := mq_zero2 (N := mm_pi N 84 0 0) (v := v)
  have kM2 : mq_kp [(82, none), (83, none)] M M2 := mq_kp_trans (mq_kp_sub k1 rfl) (mq_kp_sub k2 rfl)
  have jT : mq_T M2 N1 := (mq_J_kp jN kM2 l1 rfl rfl).1
  obtain ⟨_, N2, y2, Q⟩ := mq_weigh (M := M2) (N := N1) (v := v) jT (fun i hi => by rw [(k2 82 i rfl).1]; exact a1 i hi) (fun i hi => (b1 i hi).1)
  rcases Q with ⟨_, M3, x3, w1, w2, k3, l3⟩ | ⟨_, _, q⟩
  · have z83 : ∀ i, i < 511 → M3.1 83 i = 0 := fun i hi => by rw [(k3 83 i rfl).1]; exact a2 i hi
    have z109 : ∀ i, i < 512 → N2.1 109 i = 0 := fun i hi => by rw [(l3 109 i rfl).1]; exact (b1 i hi).2
    obtain ⟨r, x4, hr⟩ := mq_L57 (M := M3) (fun i hi => z83 i (by omega))
    rw [x1, mq_Bs, x2, mq_Bs, x3, mq_Bs, x4, mq_Bs, mq_Bs, y1, mq_Bs, y2, mq_Bs]
    unfold mf_289_j85
    rw [if_pos (mq_inr (by omega) (by omega)), if_pos (mq_inr (by omega) (by omega)), nv, ← (w1 b (by omega)).1]
    have kM3 : mq_kp [(82, none), (83, none)] M M3 := mq_kp_trans kM2 (mq_kp_sub k3 rfl)
    have kN2 : mq_kp [(108, none), (109, none)] (mm_pi N 84 0 0) N2 := mq_kp_trans l1 (mq_kp_sub l3 rfl)
    have c0 : N2.1 84 0 = 0 := by rw [(kN2 84 0 rfl).1]; rfl
    by_cases e : M3.1 82 b = 0
    · rw [if_pos e, if_pos e]
      exact mq_ok (M := M) (N := N) rfl rfl c0 (mq_J_kp jN kM3 kN2 rfl rfl)
    · rw [if_neg e, if_neg e]
      have pos : 0 < M3.1 82 b := by
        rw [Int32.lt_iff_toInt_lt]
        have := (w1 b (by omega)).2
        have : (M3.1 82 b).toInt ≠ 0 := fun z => e (Int32.toInt_inj.mp z)
        simp only [Int32.reduceToInt]
        omega
      have fb : mt_fr M3 b = 1 := by unfold mt_fr; rw [if_pos ⟨pos, z83 b (by omega)⟩]
      have oc1 := mc_sum_l (g := mt_fr M3) (n := 256) (j := b) (by omega)
      have oc2 : mc_sum (mt_fr M3) 256 ≤ 256 := by
        have : mc_sum (mt_fr M3) 256 ≤ mc_sum (fun _ => 1) 256 := mc_sum_le (fun j _ => by unfold mt_fr; split <;> omega)
        rw [mc_sum_one] at this
        exact this
      have hf : mq_hf M3 N2 256 := by
        refine ⟨w1, fun i hi => by rw [z83 i (by omega), z109 i (by omega)], fun i hi => .inl (z83 i (by omega)), fun i _ i1 => ⟨fun z => z83 i z, z109 i i1⟩, ?_⟩
        have : mc_sum (mt_fw M3) 256 ≤ mc_sum (fun i => (M3.1 82 i).toInt.toNat) 256 := mc_sum_le (fun j _ => by unfold mt_fw; split <;> omega)
        omega
      obtain ⟨M4, N4, vm, m, j, x5, y5, z3, z4, z5, z6, z7, z8, z9, z10, k5, l5⟩ := mq_joins (b := v) (v1 := r) (oc := mc_sum (mt_fr M3) 256) hr oc2 (mc_sum (mt_fr M3) 256) 256 1 M3 N2 256 1 rfl rfl (by omega) (by omega) rfl (Nat.le_refl _) hf rfl (fun z => by omega)
      rw [y5, mq_Bs]
      unfold mf_289_j179
      have kM4 := mq_kp_trans kM3 k5
      have kN4 := mq_kp_trans kN2 l5
      have c4 : N4.1 84 0 = 0 := by rw [(kN4 84 0 rfl).1]; rfl
      by_cases f : r = 1
      · rw [if_pos f]
        have vm6 : vm = 256 := Int32.toInt_inj.mp (by rw [f] at hr; simp only [Int32.reduceToInt] at hr ⊢; omega)
        rw [if_pos vm6]
        exact mq_ok (M := M) (N := N) (M2 := M3) rfl rfl c4 (mq_J_kp jN kM3 kN4 rfl rfl)
      · rw [if_neg f]
        have rn : r.toInt ≠ 1 := fun z => f (Int32.toInt_inj.mp z)
        have vm6 : ¬ vm = 256 := fun z => by rw [z] at z3; simp only [Int32.reduceToInt] at z3; omega
        rw [if_neg vm6]
        have jm := z6 (by omega)
        have ev : (vm - 1).toInt = ((m - 1 : Nat) : Int) := by rw [mi_sub]; simp only [Int32.reduceToInt]; omega
        have nm : (vm - 1).toNatClampNeg = m - 1 := by rw [mq_cl]; omega
        rw [if_pos (mq_inr (by omega) (by omega)), nm]
        have e36 : mf_36 r M3 = some (.inl (), M4) := by
          unfold mf_36
          rw [x5]
          rfl
        rw [e36, mq_Bs]
        unfold mf_38
        rw [if_pos (mq_inr (by omega) (by omega)), nv]
        obtain ⟨u, x6, y6⟩ := mq_deep (M := M4) (N := mm_pi N4 109 (m - 1) 0) (v := v) (m := m) (b := b) hb (by omega) (by omega) (fun i hi => by
          by_cases z : i = j
          · rw [z, jm, mq_ps, ← jm]; exact z7
          · rw [mq_pj (by omega)]; exact z9 i hi z) z10
        rw [x6, y6, mq_Bs, mq_Bs, mq_Bs]
        exact mq_ok (M := M) (N := N) rfl rfl c4 (mq_J_kp jN kM4 (mq_kp_pi kN4 rfl) rfl rfl)
  · exact q.elim
