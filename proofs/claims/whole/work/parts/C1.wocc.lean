/-! WRITING: SORTED, which bytes occur -/
/-- whether a byte occurs -/
def mt_oc (f : Nat → Nat) (n b : Nat) : Nat := if 0 < mt_E f n b then 1 else 0
theorem mt_oc_1 {f : Nat → Nat} {n b : Nat} : mt_oc f n b ≤ 1 := by unfold mt_oc; split <;> omega
theorem mt_E_s {f : Nat → Nat} {n b : Nat} : mt_E f (n + 1) b = mt_E f n b + (if f n = b then 1 else 0) := rfl
theorem mt_E_n {f : Nat → Nat} {n b : Nat} : mt_E f n b ≤ n := by
  have : mt_E f n b ≤ mc_sum (fun _ => 1) n := mc_sum_le (fun j _ => by
    by_cases c : f j = b
    · rw [if_pos c]; exact Nat.le_refl _
    · rw [if_neg c]; exact Nat.zero_le _)
  rw [mc_sum_one] at this
  exact this
theorem mt_E_in {f : Nat → Nat} {n i : Nat} (h : i < n) : 0 < mt_E f n (f i) := by
  have m := mc_sum_mono (f := fun x => if f x = f i then 1 else 0) (a := i + 1) (b := n) h
  have m2 : mc_sum (fun x => if f x = f i then 1 else 0) (i + 1) = mc_sum (fun x => if f x = f i then 1 else 0) i + 1 := by
    show mc_sum _ i + (if f i = f i then 1 else 0) = _
    rw [if_pos rfl]
  unfold mt_E
  omega
theorem mt_oc_sj {g : Nat → Nat} (hg : ∀ b, g b ≤ 1) : ∀ {m j : Nat}, j < mc_sum g m → ∃ b, b < m ∧ g b = 1 ∧ mc_sum g b = j
  | 0, j, h => by
    have h : j < 0 := h
    omega
  | m + 1, j, h => by
    have h : j < mc_sum g m + g m := h
    by_cases c : j < mc_sum g m
    · obtain ⟨b, b1, b2, b3⟩ := mt_oc_sj hg c
      exact ⟨b, by omega, b2, b3⟩
    · have := hg m
      exact ⟨m, by omega, by omega, by omega⟩
theorem mt_oc_le {g : Nat → Nat} (hg : ∀ b, g b ≤ 1) {m : Nat} : mc_sum g m ≤ m := by
  have : mc_sum g m ≤ mc_sum (fun _ => 1) m := mc_sum_le (fun j _ => hg j)
  rw [mc_sum_one] at this
  exact this
theorem mt_oc_in {g : Nat → Nat} {b m : Nat} (hb : b < m) (h : g b = 1) : mc_sum g b < mc_sum g m := by
  have m1 := mc_sum_mono (f := g) (a := b + 1) (b := m) hb
  have m2 : mc_sum g (b + 1) = mc_sum g b + g b := rfl
  omega
/-- the row of those that occur -/
def mt_row (f : Nat → Nat) (n : Nat) (a : Nat → Int32) (q : Nat) : Prop := q = mc_sum (mt_oc f n) 256 ∧ ∀ b, b < 256 → mt_oc f n b = 1 → (a (mc_sum (mt_oc f n) b)).toInt = b
theorem mt_row_u {f : Nat → Nat} {n q q2 : Nat} {a a2 : Nat → Int32} (h : mt_row f n a q) (g : mt_row f n a2 q2) : q = q2 ∧ ∀ j, j < q → a j = a2 j := by
  refine ⟨by rw [h.1, g.1], fun j hj => ?_⟩
  rw [h.1] at hj
  obtain ⟨b, b1, b2, rfl⟩ := mt_oc_sj (fun b => mt_oc_1) hj
  exact Int32.toInt_inj.mp (by rw [h.2 b b1 b2, g.2 b b1 b2])
theorem mt_row_c {f : Nat → Nat} {n q : Nat} {a : Nat → Int32} (h : mt_row f n a q) (hf : ∀ i, i < n → f i < 256) {i : Nat} (hi : i < n) : ∃ j, j < q ∧ (a j).toInt = f i := by
  have e : mt_oc f n (f i) = 1 := by unfold mt_oc; rw [if_pos (mt_E_in hi)]
  exact ⟨mc_sum (mt_oc f n) (f i), by rw [h.1]; exact mt_oc_in (hf i hi) e, h.2 _ (hf i hi) e⟩
theorem mt_row_b {f : Nat → Nat} {n q : Nat} {a : Nat → Int32} (h : mt_row f n a q) : q ≤ 256 := by rw [h.1]; exact mt_oc_le (fun b => mt_oc_1)
theorem mt_151 {M : mm_M} {n : Nat} {f : Nat → Nat} (hn : (M.1 42 12).toInt = n) (hn1 : n ≤ 12500) (hf : ∀ i, i < n → (M.1 47 i).toInt = f i ∧ f i < 256) : mq_1 (mf_151 M) (fun _ M2 => (∀ b, b < 256 → (M2.1 49 b).toInt = mt_E f n b) ∧ (∃ q : Nat, (M2.1 42 9).toInt = q ∧ mt_row f n (M2.1 46) q) ∧ mq_kp [(42, some 9), (46, none), (49, none)] M M2) := by
  unfold mf_151
  refine mq_1_B (mq_fill (q := 49) (n := 257) (v := 0) (by decide)) ?_
  rintro _ M1 ⟨a1, k1⟩
  refine mq_1_B (P := fun _ M2 => (∀ b, b < 256 → (M2.1 49 b).toInt = mt_E f n b) ∧ mq_kp [(49, none)] M M2) ?_ ?_
  · unfold mf_151_L10
    refine mq_1_L (I := fun (a : Int32) M2 => ∃ k : Nat, k ≤ n ∧ a.toInt = k ∧ (∀ b, b < 256 → (M2.1 49 b).toInt = mt_E f k b) ∧ mq_kp [(49, none)] M M2) (m := fun (a : Int32) _ => ((n : Int) - a.toInt).toNat) ?_ ⟨0, by omega, rfl, fun b hb => by rw [a1 b (by omega)]; rfl, k1⟩
    rintro x M2 ⟨k, hk, hx, h1, hkp⟩
    unfold mf_151_b10
    rw [(hkp 42 12 rfl).1]
    by_cases c : x < M.1 42 12
    · rw [if_pos c]
      rw [Int32.lt_iff_toInt_lt] at c
      have e1 : (x + 1).toInt = ((k + 1 : Nat) : Int) := by rw [mi_add]; simp only [Int32.reduceToInt]; omega
      have nx : x.toNatClampNeg = k := by rw [mq_cl]; omega
      obtain ⟨f1, f2⟩ := hf k (by omega)
      have nf : (M.1 47 k).toNatClampNeg = f k := by rw [mq_cl]; omega
      rw [if_pos (mq_inr (by omega) (by omega)), nx, (hkp 47 k rfl).1, if_pos (mq_inr (by omega) (by omega)), if_pos (mq_inr (by omega) (by omega)), nf]
      have h2 := h1 (f k) f2
      have h3 := mt_E_n (f := f) (n := k) (b := f k)
      refine mq_1_ret (.inl ⟨_, rfl, ⟨k + 1, by omega, e1, fun b hb => ?_, mq_kp_pi hkp rfl⟩, by omega⟩)
      rw [mt_E_s]
      by_cases q : b = f k
      · subst q
        rw [mq_ps, if_pos rfl, mi_add, h2]
        simp only [Int32.reduceToInt]
        omega
      · rw [mq_pj q, if_neg (fun z => q z.symm)]
        exact h1 b hb
    · rw [if_neg c]
      rw [Int32.lt_iff_toInt_lt] at c
      have : k = n := by omega
      subst this
      exact mq_1_ret (.inr ⟨_, rfl, h1, hkp⟩)
  · rintro _ M2 ⟨b1, k2⟩
    refine mq_1_B (P := fun _ M3 => (∃ q : Nat, (M3.1 42 9).toInt = q ∧ mt_row f n (M3.1 46) q) ∧ mq_kp [(42, some 9), (46, none)] M2 M3) ?_ ?_
    · unfold mf_151_L46
      refine mq_1_L (I := fun (a : Int32) M3 => ∃ k : Nat, k ≤ 256 ∧ a.toInt = k ∧ (M3.1 42 9).toInt = mc_sum (mt_oc f n) k ∧ (∀ b, b < k → mt_oc f n b = 1 → (M3.1 46 (mc_sum (mt_oc f n) b)).toInt = b) ∧ mq_kp [(42, some 9), (46, none)] M2 M3) (m := fun (a : Int32) _ => (256 - a.toInt).toNat) ?_ ⟨0, by omega, rfl, rfl, fun b hb => absurd hb (Nat.not_lt_zero _), mq_kp_pi mq_kp_refl rfl⟩
      rintro x M3 ⟨k, hk, hx, h9, h1, hkp⟩
      unfold mf_151_b46
      by_cases c : x < 256
      · rw [if_pos c]
        rw [Int32.lt_iff_toInt_lt] at c
        simp only [Int32.reduceToInt] at c
        have e1 : (x + 1).toInt = ((k + 1 : Nat) : Int) := by rw [mi_add]; simp only [Int32.reduceToInt]; omega
        have nx : x.toNatClampNeg = k := by rw [mq_cl]; omega
        have b2 := b1 k (by omega)
        have ol := mt_oc_le (g := mt_oc f n) (fun b => mt_oc_1) (m := k)
        have os : mc_sum (mt_oc f n) (k + 1) = mc_sum (mt_oc f n) k + mt_oc f n k := rfl
        rw [if_pos (mq_inr (by omega) (by omega)), nx, (hkp 49 k rfl).1]
        by_cases d : 0 < M2.1 49 k
        · rw [if_pos d]
          rw [Int32.lt_iff_toInt_lt, b2] at d
          simp only [Int32.reduceToInt] at d
          have o1 : mt_oc f n k = 1 := by unfold mt_oc; rw [if_pos (by omega)]
          have n9 : (M3.1 42 9).toNatClampNeg = mc_sum (mt_oc f n) k := by rw [mq_cl]; omega
          rw [if_pos (mq_inr (by omega) (by omega)), n9]
          refine mq_1_ret (.inl ⟨_, rfl, ⟨k + 1, by omega, e1, ?_, fun b hb ob => ?_, mq_kp_pi (mq_kp_pi hkp rfl) rfl⟩, by omega⟩)
          · show (M3.1 42 9 + 1).toInt = _
            rw [mi_add, h9, os, o1]
            simp only [Int32.reduceToInt]
            omega
          · show ((mm_pi M3 46 (mc_sum (mt_oc f n) k) x).1 46 (mc_sum (mt_oc f n) b)).toInt = b
            by_cases q : b = k
            · rw [q, mq_ps]; exact hx
            · have := mt_oc_in (g := mt_oc f n) (b := b) (m := k) (by omega) ob
              rw [mq_pj (by omega)]
              exact h1 b (by omega) ob
        · rw [if_neg d]
          rw [Int32.lt_iff_toInt_lt, b2] at d
          simp only [Int32.reduceToInt] at d
          have o0 : mt_oc f n k = 0 := by unfold mt_oc; rw [if_neg (by omega)]
          refine mq_1_ret (.inl ⟨_, rfl, ⟨k + 1, by omega, e1, by rw [os, o0]; exact h9, fun b hb ob => ?_, hkp⟩, by omega⟩)
          by_cases q : b = k
          · rw [q, o0] at ob; omega
          · exact h1 b (by omega) ob
      · rw [if_neg c]
        rw [Int32.lt_iff_toInt_lt] at c
        simp only [Int32.reduceToInt] at c
        have : k = 256 := by omega
        subst this
        exact mq_1_ret (.inr ⟨_, rfl, ⟨_, h9, rfl, h1⟩, hkp⟩)
    · rintro _ M3 ⟨c1, k3⟩
      refine mq_1_ret ⟨fun b hb => by rw [(k3 49 b rfl).1]; exact b1 b hb, c1, mq_kp_trans (mq_kp_sub k2 rfl) (mq_kp_sub k3 rfl)⟩
/-- the reference's flags and row -/
theorem mt_277a {N : mm_M} {v : Int32} {n : Nat} {f : Nat → Nat} (hn : v.toInt = n) (hn1 : n ≤ 12500) (hf : ∀ i, i < n → (N.1 102 i).toInt = f i ∧ f i < 256) : mq_1 (mm_B (mf_277_L2 v (0 : Int32) N) (fun r2 M1 => mm_B (mf_277_L24 v (0 : Int32) M1) (fun r7 M6 => (mf_277_L54 (0 : Int32) (mm_pi M6 84 20 (0 : Int32)))))) (fun _ N2 => (∀ b, b < 256 → (N2.1 104 b).toInt = mt_oc f n b) ∧ (∃ q : Nat, (N2.1 84 20).toInt = q ∧ mt_row f n (N2.1 94) q) ∧ mq_kp [(84, some 20), (94, none), (104, none)] N N2) := by
  refine mq_1_B (P := fun _ N2 => (∀ b, b < 256 → N2.1 104 b = 0) ∧ mq_kp [(104, none)] N N2) ?_ ?_
  · unfold mf_277_L2
    refine mq_1_L (I := fun (a : Int32) N2 => ∃ k : Nat, k ≤ 256 ∧ a.toInt = k ∧ (∀ b, b < k → N2.1 104 b = 0) ∧ mq_kp [(104, none)] N N2) (m := fun (a : Int32) _ => (256 - a.toInt).toNat) ?_ ⟨0, by omega, rfl, fun b hb => absurd hb (Nat.not_lt_zero _), mq_kp_refl⟩
    rintro x N2 ⟨k, hk, hx, h1, hkp⟩
    unfold mf_277_b2
    by_cases c : x < 256
    · rw [if_pos c]
      rw [Int32.lt_iff_toInt_lt] at c
      simp only [Int32.reduceToInt] at c
      have e1 : (x + 1).toInt = ((k + 1 : Nat) : Int) := by rw [mi_add]; simp only [Int32.reduceToInt]; omega
      have nx : x.toNatClampNeg = k := by rw [mq_cl]; omega
      rw [if_pos (mq_inr (by omega) (by omega)), nx]
      refine mq_1_ret (.inl ⟨_, rfl, ⟨k + 1, by omega, e1, fun b hb => ?_, mq_kp_pi hkp rfl⟩, by omega⟩)
      by_cases q : b = k
      · rw [q, mq_ps]
      · rw [mq_pj q]; exact h1 b (by omega)
    · rw [if_neg c]
      rw [Int32.lt_iff_toInt_lt] at c
      simp only [Int32.reduceToInt] at c
      exact mq_1_ret (.inr ⟨_, rfl, fun b hb => h1 b (by omega), hkp⟩)
  · rintro _ N1 ⟨a1, k1⟩
    refine mq_1_B (P := fun _ N2 => (∀ b, b < 256 → (N2.1 104 b).toInt = mt_oc f n b) ∧ mq_kp [(104, none)] N N2) ?_ ?_
    · unfold mf_277_L24
      refine mq_1_L (I := fun (a : Int32) N2 => ∃ k : Nat, k ≤ n ∧ a.toInt = k ∧ (∀ b, b < 256 → (N2.1 104 b).toInt = mt_oc f k b) ∧ mq_kp [(104, none)] N N2) (m := fun (a : Int32) _ => ((n : Int) - a.toInt).toNat) ?_ ⟨0, by omega, rfl, fun b hb => by rw [a1 b hb]; rfl, k1⟩
      rintro x N2 ⟨k, hk, hx, h1, hkp⟩
      unfold mf_277_b24
      by_cases c : x < v
      · rw [if_pos c]
        rw [Int32.lt_iff_toInt_lt] at c
        have e1 : (x + 1).toInt = ((k + 1 : Nat) : Int) := by rw [mi_add]; simp only [Int32.reduceToInt]; omega
        have nx : x.toNatClampNeg = k := by rw [mq_cl]; omega
        obtain ⟨f1, f2⟩ := hf k (by omega)
        have nf : (N.1 102 k).toNatClampNeg = f k := by rw [mq_cl]; omega
        rw [if_pos (mq_inr (by omega) (by omega)), nx, (hkp 102 k rfl).1, if_pos (mq_inr (by omega) (by omega)), nf]
        refine mq_1_ret (.inl ⟨_, rfl, ⟨k + 1, by omega, e1, fun b hb => ?_, mq_kp_pi hkp rfl⟩, by omega⟩)
        have es := mt_E_s (f := f) (n := k) (b := b)
        by_cases q : b = f k
        · subst q
          rw [mq_ps]
          rw [if_pos rfl] at es
          unfold mt_oc
          rw [if_pos (by omega)]
          rfl
        · rw [mq_pj q, h1 b hb]
          rw [if_neg (fun z => q z.symm)] at es
          unfold mt_oc
          rw [es]
          rfl
      · rw [if_neg c]
        rw [Int32.lt_iff_toInt_lt] at c
        have : k = n := by omega
        subst this
        exact mq_1_ret (.inr ⟨_, rfl, h1, hkp⟩)
    · rintro _ N2 ⟨b1, k2⟩
      refine mq_1_mono (P := fun _ N3 => (∃ q : Nat, (N3.1 84 20).toInt = q ∧ mt_row f n (N3.1 94) q) ∧ mq_kp [(84, some 20), (94, none)] N2 N3) ?_ ?_
      · unfold mf_277_L54
        refine mq_1_L (I := fun (a : Int32) M3 => ∃ k : Nat, k ≤ 256 ∧ a.toInt = k ∧ (M3.1 84 20).toInt = mc_sum (mt_oc f n) k ∧ (∀ b, b < k → mt_oc f n b = 1 → (M3.1 94 (mc_sum (mt_oc f n) b)).toInt = b) ∧ mq_kp [(84, some 20), (94, none)] N2 M3) (m := fun (a : Int32) _ => (256 - a.toInt).toNat) ?_ ⟨0, by omega, rfl, rfl, fun b hb => absurd hb (Nat.not_lt_zero _), mq_kp_pi mq_kp_refl rfl⟩
        rintro x M3 ⟨k, hk, hx, h9, h1, hkp⟩
        unfold mf_277_b54
        by_cases c : x < 256
        · rw [if_pos c]
          rw [Int32.lt_iff_toInt_lt] at c
          simp only [Int32.reduceToInt] at c
          have e1 : (x + 1).toInt = ((k + 1 : Nat) : Int) := by rw [mi_add]; simp only [Int32.reduceToInt]; omega
          have nx : x.toNatClampNeg = k := by rw [mq_cl]; omega
          have b2 := b1 k (by omega)
          have ol := mt_oc_le (g := mt_oc f n) (fun b => mt_oc_1) (m := k)
          have os : mc_sum (mt_oc f n) (k + 1) = mc_sum (mt_oc f n) k + mt_oc f n k := rfl
          rw [if_pos (mq_inr (by omega) (by omega)), nx, (hkp 104 k rfl).1]
          by_cases d : N2.1 104 k = 1
          · rw [if_pos d]
            have o1 : mt_oc f n k = 1 := by rw [d] at b2; simp only [Int32.reduceToInt] at b2; omega
            have n9 : (M3.1 84 20).toNatClampNeg = mc_sum (mt_oc f n) k := by rw [mq_cl]; omega
            rw [if_pos (mq_inr (by omega) (by omega)), n9]
            refine mq_1_ret (.inl ⟨_, rfl, ⟨k + 1, by omega, e1, ?_, fun b hb ob => ?_, mq_kp_pi (mq_kp_pi hkp rfl) rfl⟩, by omega⟩)
            · show (M3.1 84 20 + 1).toInt = _
              rw [mi_add, h9, os, o1]
              simp only [Int32.reduceToInt]
              omega
            · show ((mm_pi M3 94 (mc_sum (mt_oc f n) k) x).1 94 (mc_sum (mt_oc f n) b)).toInt = b
              by_cases q : b = k
              · rw [q, mq_ps]; exact hx
              · have := mt_oc_in (g := mt_oc f n) (b := b) (m := k) (by omega) ob
                rw [mq_pj (by omega)]
                exact h1 b (by omega) ob
          · rw [if_neg d]
            have o0 : mt_oc f n k = 0 := by
              have l1 := mt_oc_1 (f := f) (n := n) (b := k)
              have : mt_oc f n k ≠ 1 := fun q => d (Int32.toInt_inj.mp (by rw [b2, q]; rfl))
              omega
            refine mq_1_ret (.inl ⟨_, rfl, ⟨k + 1, by omega, e1, by rw [os, o0]; exact h9, fun b hb ob => ?_, hkp⟩, by omega⟩)
            by_cases q : b = k
            · rw [q, o0] at ob; omega
            · exact h1 b (by omega) ob
        · rw [if_neg c]
          rw [Int32.lt_iff_toInt_lt] at c
          simp only [Int32.reduceToInt] at c
          have : k = 256 := by omega
          subst this
          exact mq_1_ret (.inr ⟨_, rfl, ⟨_, h9, rfl, h1⟩, hkp⟩)
      · rintro _ N3 ⟨c1, k3⟩
        exact ⟨fun b hb => by rw [(k3 104 b rfl).1]; exact b1 b hb, c1, mq_kp_trans (mq_kp_sub k2 rfl) (mq_kp_sub k3 rfl)⟩
