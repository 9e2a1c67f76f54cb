/-! TURNINGS: the class's counting sort -/
theorem mt_L2 {M : mm_M} {v : Int32} {K : Nat} (hv : v.toInt = K) (hK : K ≤ 12500) : mq_1 (mf_67_L2 v 0 M) (fun _ M2 => (∀ k, k ≤ K → M2.1 12 k = 0) ∧ mq_kp [(12, none)] M M2) := by
  unfold mf_67_L2
  refine mq_1_L (I := fun (a : Int32) M2 => ∃ k : Nat, k ≤ K + 1 ∧ a.toInt = k ∧ (∀ j, j < k → M2.1 12 j = 0) ∧ mq_kp [(12, none)] M M2) (m := fun (a : Int32) _ => ((K : Int) + 1 - a.toInt).toNat) ?_ ⟨0, by omega, rfl, fun j h => absurd h (Nat.not_lt_zero _), mq_kp_refl⟩
  rintro x M2 ⟨k, hk, hx, h1, hkp⟩
  unfold mf_67_b2
  by_cases c : v < x
  · rw [if_pos c]
    rw [Int32.lt_iff_toInt_lt] at c
    exact mq_1_ret (.inr ⟨_, rfl, fun j hj => h1 j (by omega), hkp⟩)
  · rw [if_neg c]
    rw [Int32.lt_iff_toInt_lt] at c
    have e1 : (x + 1).toInt = ((k + 1 : Nat) : Int) := by rw [mi_add]; simp only [Int32.reduceToInt]; omega
    have nx : x.toNatClampNeg = k := by rw [mq_cl]; omega
    rw [if_pos (by rw [Int32.lt_iff_toInt_lt]; simp only [Int32.reduceToInt]; omega), if_pos (mq_inr (by omega) (by omega)), nx]
    refine mq_1_ret (.inl ⟨_, rfl, ⟨k + 1, by omega, e1, fun j hj => ?_, mq_kp_pi hkp rfl⟩, by omega⟩)
    by_cases q : j = k
    · rw [q, mq_ps]
    · rw [mq_pj q]; exact h1 j (by omega)
theorem mt_L31 {M : mm_M} {v : Int32} {n K : Nat} {r : Nat → Nat} (hn : (M.1 7 5).toInt = n) (hn1 : n ≤ 12500) (hK : K ≤ 12500) (hr : ∀ i, i < n → (M.1 9 i).toInt = r i ∧ r i < K) (h0 : ∀ k, k ≤ K → M.1 12 k = 0) : mq_1 (mf_67_L31 v 0 M) (fun _ M2 => (M2.1 12 0).toInt = 0 ∧ (∀ k, k < K → (M2.1 12 (k + 1)).toInt = mt_E r n k) ∧ mq_kp [(12, none)] M M2) := by
  unfold mf_67_L31
  refine mq_1_L (I := fun (a : Int32) M2 => ∃ i : Nat, i ≤ n ∧ a.toInt = i ∧ (M2.1 12 0).toInt = 0 ∧ (∀ k, k < K → (M2.1 12 (k + 1)).toInt = mc_sum (fun x => if r x = k then 1 else 0) i) ∧ mq_kp [(12, none)] M M2) (m := fun (a : Int32) _ => ((n : Int) - a.toInt).toNat) ?_ ⟨0, by omega, rfl, by rw [h0 0 (by omega)]; rfl, fun k hk => by rw [h0 (k + 1) (by omega)]; rfl, mq_kp_refl⟩
  rintro x M2 ⟨i, hi, hx, h1, h2, hkp⟩
  unfold mf_67_b31
  rw [(hkp 7 5 rfl).1]
  by_cases c : x < M.1 7 5
  · rw [if_pos c]
    rw [Int32.lt_iff_toInt_lt] at c
    have e1 : (x + 1).toInt = ((i + 1 : Nat) : Int) := by rw [mi_add]; simp only [Int32.reduceToInt]; omega
    have nx : x.toNatClampNeg = i := by rw [mq_cl]; omega
    obtain ⟨r1, r2⟩ := hr i (by omega)
    have e2 : (M.1 9 i + 1).toInt = ((r i + 1 : Nat) : Int) := by rw [mi_add]; simp only [Int32.reduceToInt]; omega
    have n2 : (M.1 9 i + 1).toNatClampNeg = r i + 1 := by rw [mq_cl]; omega
    rw [if_pos (mq_inr (by omega) (by omega)), nx, (hkp 9 i rfl).1, if_pos (mq_inr (by omega) (by omega)), if_pos (mq_inr (by omega) (by omega)), n2]
    have cb : mc_sum (fun x => if r x = r i then 1 else 0) i ≤ i := by
      have : mc_sum (fun x => if r x = r i then 1 else 0) i ≤ mc_sum (fun _ => 1) i := mc_sum_le (fun j _ => by
        by_cases c : r j = r i
        · rw [if_pos c]; exact Nat.le_refl _
        · rw [if_neg c]; exact Nat.zero_le _)
      rw [mc_sum_one] at this
      exact this
    refine mq_1_ret (.inl ⟨_, rfl, ⟨i + 1, by omega, e1, ?_, fun k hk => ?_, mq_kp_pi hkp rfl⟩, by omega⟩)
    · rw [mq_pj (by omega)]; exact h1
    · show ((mm_pi M2 12 (r i + 1) (M2.1 12 (r i + 1) + 1)).1 12 (k + 1)).toInt = ((mc_sum (fun x => if r x = k then 1 else 0) i + (if r i = k then 1 else 0) : Nat) : Int)
      by_cases q : k = r i
      · subst q
        have h3 := h2 (r i) hk
        rw [mq_ps, if_pos rfl, mi_add, h3]
        simp only [Int32.reduceToInt]
        omega
      · rw [mq_pj (by omega), if_neg (fun z => q z.symm)]
        exact h2 k hk
  · rw [if_neg c]
    rw [Int32.lt_iff_toInt_lt] at c
    have : i = n := by omega
    subst this
    exact mq_1_ret (.inr ⟨_, rfl, h1, h2, hkp⟩)
theorem mt_L64 {M : mm_M} {v : Int32} {n K : Nat} {r : Nat → Nat} (hv : v.toInt = K) (hn1 : n ≤ 12500) (hK : K ≤ 12500) (h0 : (M.1 12 0).toInt = 0) (h1 : ∀ k, k < K → (M.1 12 (k + 1)).toInt = mt_E r n k) : mq_1 (mf_67_L64 v 1 M) (fun _ M2 => (∀ k, k ≤ K → (M2.1 12 k).toInt = mt_C r n k) ∧ mq_kp [(12, none)] M M2) := by
  have C0 : mt_C r n 0 = 0 := mc_sum_0 (fun j _ => if_neg (Nat.not_lt_zero _))
  unfold mf_67_L64
  refine mq_1_L (I := fun (a : Int32) M2 => ∃ k : Nat, 1 ≤ k ∧ k ≤ K + 1 ∧ a.toInt = k ∧ (∀ j, j < k → (M2.1 12 j).toInt = mt_C r n j) ∧ (∀ j, k ≤ j → j ≤ K → (M2.1 12 j).toInt = mt_E r n (j - 1)) ∧ mq_kp [(12, none)] M M2) (m := fun (a : Int32) _ => ((K : Int) + 1 - a.toInt).toNat) ?_ ⟨1, by omega, by omega, rfl, fun j hj => ?_, fun j j1 j2 => ?_, mq_kp_refl⟩
  · rintro x M2 ⟨k, k1, hk, hx, g1, g2, hkp⟩
    unfold mf_67_b64
    by_cases c : v < x
    · rw [if_pos c]
      rw [Int32.lt_iff_toInt_lt] at c
      exact mq_1_ret (.inr ⟨_, rfl, fun j hj => g1 j (by omega), hkp⟩)
    · rw [if_neg c]
      rw [Int32.lt_iff_toInt_lt] at c
      have e1 : (x + 1).toInt = ((k + 1 : Nat) : Int) := by rw [mi_add]; simp only [Int32.reduceToInt]; omega
      have e2 : (x - 1).toInt = ((k - 1 : Nat) : Int) := by rw [mi_sub]; simp only [Int32.reduceToInt]; omega
      have nx : x.toNatClampNeg = k := by rw [mq_cl]; omega
      have n2 : (x - 1).toNatClampNeg = k - 1 := by rw [mq_cl]; omega
      rw [if_pos (by rw [Int32.lt_iff_toInt_lt]; simp only [Int32.reduceToInt]; omega), if_pos (mq_inr (by omega) (by omega)), if_pos (mq_inr (by omega) (by omega)), if_pos (mq_inr (by omega) (by omega)), nx, n2]
      have s1 := g1 (k - 1) (by omega)
      have s2 := g2 k (Nat.le_refl _) (by omega)
      have s3 : mt_C r n k = mt_C r n (k - 1) + mt_E r n (k - 1) := by
        have := mt_C_s (r := r) (n := n) (k := k - 1)
        rw [show k - 1 + 1 = k from by omega] at this
        exact this
      have s4 := mt_C_n (r := r) (n := n) (k := k)
      refine mq_1_ret (.inl ⟨_, rfl, ⟨k + 1, by omega, by omega, e1, fun j hj => ?_, fun j j1 j2 => ?_, mq_kp_pi hkp rfl⟩, by omega⟩)
      · by_cases q : j = k
        · rw [q, mq_ps, mi_add, s1, s2]
          omega
        · rw [mq_pj q]; exact g1 j (by omega)
      · rw [mq_pj (by omega)]; exact g2 j (by omega) j2
  · have : j = 0 := by omega
    rw [this, C0]
    exact h0
  · have := h1 (j - 1) (by omega)
    rw [show j - 1 + 1 = j from by omega] at this
    exact this
theorem mt_L103 {M : mm_M} {n K : Nat} {r s : Nat → Nat} (hn : (M.1 7 5).toInt = n) (hn1 : n ≤ 12500) (hK : K ≤ 12500) (hr : ∀ i, i < n → (M.1 9 i).toInt = r i ∧ r i < K) (hs : ∀ i, i < n → (M.1 10 i).toInt = s i) (hP : mt_P n s) (h0 : ∀ k, k ≤ K → (M.1 12 k).toInt = mt_C r n k) : mq_1 (mf_67_L103 0 M) (fun _ M2 => (∀ i, i < n → (M2.1 8 (mt_tp r s n i)).toInt = s i) ∧ mq_kp [(8, none), (12, none)] M M2) := by
  unfold mf_67_L103
  refine mq_1_L (I := fun (a : Int32) M2 => ∃ i : Nat, i ≤ n ∧ a.toInt = i ∧ (∀ k, k ≤ K → (M2.1 12 k).toInt = ((mt_C r n k + mc_sum (fun j => if r (s j) = k then 1 else 0) i : Nat) : Int)) ∧ (∀ j, j < i → (M2.1 8 (mt_tp r s n j)).toInt = s j) ∧ mq_kp [(8, none), (12, none)] M M2) (m := fun (a : Int32) _ => ((n : Int) - a.toInt).toNat) ?_ ⟨0, by omega, rfl, fun k hk => by rw [h0 k hk]; rfl, fun j h => absurd h (Nat.not_lt_zero _), mq_kp_refl⟩
  rintro x M2 ⟨i, hi, hx, h1, h2, hkp⟩
  unfold mf_67_b103
  rw [(hkp 7 5 rfl).1]
  by_cases c : x < M.1 7 5
  · rw [if_pos c]
    rw [Int32.lt_iff_toInt_lt] at c
    have e1 : (x + 1).toInt = ((i + 1 : Nat) : Int) := by rw [mi_add]; simp only [Int32.reduceToInt]; omega
    have nx : x.toNatClampNeg = i := by rw [mq_cl]; omega
    have si := hs i (by omega)
    have sl := hP.1 i (by omega)
    have ns : (M.1 10 i).toNatClampNeg = s i := by rw [mq_cl]; omega
    obtain ⟨r1, r2⟩ := hr (s i) sl
    have nr : (M.1 9 (s i)).toNatClampNeg = r (s i) := by rw [mq_cl]; omega
    have hc := h1 (r (s i)) (by omega)
    have ht : mt_tp r s n i = mt_C r n (r (s i)) + mc_sum (fun j => if r (s j) = r (s i) then 1 else 0) i := rfl
    have hl := mt_tp_n (r := r) hP (i := i) (by omega)
    have nc : (M2.1 12 (r (s i))).toNatClampNeg = mt_tp r s n i := by rw [mq_cl]; omega
    have i1 : mm_in x 12500 = true := mq_inr (by omega) (by omega)
    have i2 : mm_in (M.1 10 i) 12500 = true := mq_inr (by omega) (by omega)
    have i3 : mm_in (M.1 9 (s i)) 12501 = true := mq_inr (by omega) (by omega)
    have i4 : mm_in (M2.1 12 (r (s i))) 12500 = true := mq_inr (by omega) (by omega)
    rw [if_pos i1, nx, (hkp 10 i rfl).1, if_pos i2, ns, (hkp 9 (s i) rfl).1, if_pos i3, if_pos i1, nr, if_pos i4, if_pos i3, if_pos i3, nc]
    refine mq_1_ret (.inl ⟨_, rfl, ⟨i + 1, by omega, e1, fun k hk => ?_, fun j hj => ?_, mq_kp_pi (mq_kp_pi hkp rfl) rfl⟩, by omega⟩)
    · show ((mm_pi (mm_pi M2 8 (mt_tp r s n i) (M.1 10 i)) 12 (r (s i)) (M2.1 12 (r (s i)) + 1)).1 12 k).toInt = ((mt_C r n k + (mc_sum (fun j => if r (s j) = k then 1 else 0) i + (if r (s i) = k then 1 else 0)) : Nat) : Int)
      by_cases q : k = r (s i)
      · subst q
        rw [mq_ps, if_pos rfl, mi_add, hc]
        simp only [Int32.reduceToInt]
        omega
      · rw [mq_pj q, if_neg (fun z => q z.symm)]
        exact h1 k hk
    · show ((mm_pi M2 8 (mt_tp r s n i) (M.1 10 i)).1 8 (mt_tp r s n j)).toInt = s j
      by_cases q : j = i
      · rw [q, mq_ps]; exact si
      · rw [mq_pj (fun z => q (mt_tp_i hP (by omega) (by omega) z))]
        exact h2 j (by omega)
  · rw [if_neg c]
    rw [Int32.lt_iff_toInt_lt] at c
    have : i = n := by omega
    subst this
    exact mq_1_ret (.inr ⟨_, rfl, h2, hkp⟩)
theorem mt_67 {M : mm_M} {v : Int32} {n K : Nat} {r s : Nat → Nat} (hn : (M.1 7 5).toInt = n) (hn1 : n ≤ 12500) (hv : v.toInt = K) (hK : K ≤ 12500) (hr : ∀ i, i < n → (M.1 9 i).toInt = r i ∧ r i < K) (hs : ∀ i, i < n → (M.1 10 i).toInt = s i) (hP : mt_P n s) : mq_1 (mf_67 v M) (fun _ M2 => (∀ i, i < n → (M2.1 8 (mt_tp r s n i)).toInt = s i) ∧ mq_kp [(8, none), (12, none)] M M2) := by
  unfold mf_67
  refine mq_1_B (mt_L2 hv hK) ?_
  rintro _ M1 ⟨a1, k1⟩
  refine mq_1_B (mt_L31 (M := M1) (v := v) (n := n) (K := K) (r := r) (by rw [(k1 7 5 rfl).1]; exact hn) hn1 hK (fun i hi => by rw [(k1 9 i rfl).1]; exact hr i hi) a1) ?_
  rintro _ M2 ⟨b1, b2, k2⟩
  refine mq_1_B (mt_L64 (M := M2) (n := n) (r := r) hv hn1 hK b1 b2) ?_
  rintro _ M3 ⟨c1, k3⟩
  have kk := mq_kp_trans k1 (mq_kp_trans k2 k3)
  refine mq_1_B (mt_L103 (M := M3) (n := n) (K := K) (r := r) (s := s) (by rw [(kk 7 5 rfl).1]; exact hn) hn1 hK (fun i hi => by rw [(kk 9 i rfl).1]; exact hr i hi) (fun i hi => by rw [(kk 10 i rfl).1]; exact hs i hi) hP c1) ?_
  rintro _ M4 ⟨d1, k4⟩
  exact mq_1_ret ⟨d1, mq_kp_trans (mq_kp_sub kk rfl) k4⟩
/-- the row as one of numbers below n -/
theorem mt_67' {M : mm_M} {v : Int32} {n K : Nat} {r s : Nat → Nat} (hn : (M.1 7 5).toInt = n) (hn1 : n ≤ 12500) (hv : v.toInt = K) (hK : K ≤ 12500) (hr : ∀ i, i < n → (M.1 9 i).toInt = r i ∧ r i < K) (hs : ∀ i, i < n → (M.1 10 i).toInt = s i) (hP : mt_P n s) : mq_1 (mf_67 v M) (fun _ M2 => ∃ o : Nat → Nat, (∀ i, i < n → (M2.1 8 i).toInt = o i) ∧ mt_P n o ∧ (∀ p q, p < q → q < n → ∃ i j, i < n ∧ j < n ∧ o p = s i ∧ o q = s j ∧ (r (s i) < r (s j) ∨ (r (s i) = r (s j) ∧ i < j))) ∧ mq_kp [(8, none), (12, none)] M M2) := by
  refine mq_1_mono (mt_67 hn hn1 hv hK hr hs hP) ?_
  rintro _ M2 ⟨h1, k1⟩
  have hp : mt_P n (mt_tp r s n) := mt_P_of (fun i hi => mt_tp_n hP hi) (fun i j hi hj h => mt_tp_i hP hi hj h)
  obtain ⟨x, y⟩ := mt_sorted (r := r) (s := s) (o := fun i => (M2.1 8 i).toInt.toNat) (n := n) hP (fun i hi => by
    show (M2.1 8 (mt_tp r s n i)).toInt.toNat = s i
    rw [h1 i hi]; rfl)
  refine ⟨fun i => (M2.1 8 i).toInt.toNat, fun i hi => ?_, x, y, k1⟩
  obtain ⟨j, j1, rfl⟩ := hp.2.2 i hi
  show (M2.1 8 (mt_tp r s n j)).toInt = (((M2.1 8 (mt_tp r s n j)).toInt.toNat : Nat) : Int)
  rw [h1 j j1]
  rfl
