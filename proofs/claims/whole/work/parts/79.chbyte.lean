/-! FORM 10: a byte's bits, in step -/
theorem mi_lowb {x m : Int32} {k : Nat} (hm : m.toInt = k) (hk : k ≤ 8) : (x &&& (mm_shl 1 m - 1)).toInt = x.toInt % ((2 ^ k : Nat) : Int) := by
  have h1 := mi_shl1' (m := m) (by omega) (by omega)
  have hp : 2 ^ k ≤ 2 ^ 8 := Nat.pow_le_pow_right (by decide) hk
  have h0 : 0 < 2 ^ k := Nat.pow_pos (by decide)
  have e : m.toInt.toNat = k := by omega
  rw [e] at h1
  refine mi_andm x k (by omega) _ (mi_ofk ?_) _ rfl
  rw [mi_sub, h1]; simp only [Int32.reduceToInt]; omega
theorem mq_cby0 {M N : mm_M} {f g m k i : Int32} {F G n j : Nat} (hW : mq_W M N) (hc : mq_cx M N) (hf : f.toInt = F) (hg : g.toInt = G) (hm : ∀ k, k < 768 → F + k < 14340 ∧ G + k = mq_mp (F + k)) (hk : k.toInt = n) (hi : i.toInt = 7 - j) (hj : j ≤ 8) (n0 : 2 ^ j ≤ n) (n1 : n < 2 ^ (j + 1)) : mq_2 mq_XE (mf_165_L178 f k M) (mf_241_L118 g m (0, k, i) N) (fun v M2 b N2 => v = b ∧ 256 ≤ v.toInt ∧ v.toInt < 512 ∧ mq_W M2 N2 ∧ mq_cx M2 N2) := by
  unfold mf_165_L178 mf_241_L118
  refine mq_2_L (I := fun (a : Int32) M2 (b : Int32 × Int32 × Int32) N2 => b.1 = 0 ∧ a = b.2.1 ∧ (∃ n j : Nat, a.toInt = n ∧ b.2.2.toInt = 7 - j ∧ j ≤ 8 ∧ 2 ^ j ≤ n ∧ n < 2 ^ (j + 1)) ∧ mq_W M2 N2 ∧ mq_cx M2 N2) (J := fun M (_ : Int32 × Int32 × Int32) N => mq_X M N) (m := fun (a : Int32) _ => (512 - a.toInt).toNat) ?_ ?_ ⟨rfl, rfl, ⟨n, j, hk, hi, hj, n0, n1⟩, hW, hc⟩
  · rintro k M2 ⟨al, k', i⟩ N2 ⟨h1, h2, ⟨n, j, hk, hi, hj, n0, n1⟩, w2, c2⟩
    dsimp only at h1 h2 hi
    subst h1 h2
    unfold mf_165_b178 mf_241_b118 mf_241_j152
    dsimp only
    have hpj : 2 ^ j ≤ 2 ^ 8 := Nat.pow_le_pow_right (by decide) hj
    by_cases c : j < 8
    · have hpj2 : 2 ^ (j + 1) ≤ 2 ^ 8 := Nat.pow_le_pow_right (by decide) c
      rw [if_pos (show k < 256 from by rw [Int32.lt_iff_toInt_lt]; simp only [Int32.reduceToInt]; omega), if_neg (show ¬ i < 0 from by rw [Int32.lt_iff_toInt_lt]; simp only [Int32.reduceToInt]; omega), if_pos rfl, (show g + 0 = g from Int32.add_zero g)]
      obtain ⟨m1, m2⟩ := hm n (by omega)
      have e1 : (f + k).toInt = ((F + n : Nat) : Int) := by rw [mi_add]; omega
      have e2 : (g + k).toInt = ((G + n : Nat) : Int) := by have := mq_mp_lt m1; rw [mi_add]; omega
      have ei : (i + -1).toInt = 7 - ((j + 1 : Nat) : Int) := by rw [mi_add, show (-1 : Int32).toInt = -1 from rfl]; omega
      refine mq_2_B (mq_cbit w2 c2 (i := f + k) (j := g + k) (by omega) (by omega) (by rw [e1, e2, m2]; rfl)) ?_ ?_
      · rintro v M3 b N3 ⟨rfl, v1, w3, c3⟩
        rw [if_pos rfl]
        have ek := mi_2kb hk (by omega) v1
        have vv := mi_b01 v1
        have q1 : 2 ^ (j + 1) ≤ 2 * n + v.toInt.toNat := by rw [Nat.pow_succ]; omega
        have q2 : 2 * n + v.toInt.toNat < 2 ^ (j + 1 + 1) := by rw [Nat.pow_succ] at n1 ⊢; omega
        have q3 : (2 * k + v).toInt = ((2 * n + v.toInt.toNat : Nat) : Int) := by omega
        have q0 : 1 ≤ n := Nat.le_trans (Nat.pow_pos (by decide)) n0
        have q4 : (512 - (2 * k + v).toInt).toNat < (512 - k.toInt).toNat := by rw [q3, hk]; omega
        exact mq_2_ret (.inl ⟨2 * k + v, (0, 2 * k + v, i + -1), rfl, rfl, ⟨rfl, rfl, ⟨2 * n + v.toInt.toNat, j + 1, q3, ei, c, q1, q2⟩, w3, c3⟩, q4⟩)
      · rintro M3 b N3 ⟨_, hx⟩
        rw [if_pos rfl]
        exact mq_1_ret (.inl ⟨_, rfl, hx⟩)
    · have : j = 8 := by omega
      subst this
      have n0 : 256 ≤ n := n0
      have n1 : n < 512 := n1
      rw [if_neg (show ¬ k < 256 from by rw [Int32.lt_iff_toInt_lt]; simp only [Int32.reduceToInt]; omega), if_pos (show i < 0 from by rw [Int32.lt_iff_toInt_lt]; simp only [Int32.reduceToInt]; omega)]
      exact mq_2_ret (.inr ⟨_, _, rfl, rfl, rfl, by omega, by omega, w2, c2⟩)
  · intro M2 b N2 hx
    exact mq_xd hx (fun z => md_241_L118 z mq_ob_refl)
