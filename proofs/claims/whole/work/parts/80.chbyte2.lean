/-! FORM 10: a byte beside another -/
theorem mq_L108z {M : mm_M} {f m k i : Int32} : mf_165_L108 f m (k, 0, i) M = some (.inl k, M) := by
  unfold mf_165_L108
  rw [mm_L_eq]
  unfold mf_165_b108
  dsimp only
  by_cases c : i < 0
  · rw [if_pos c]; rfl
  · rw [if_neg c, if_pos rfl]; rfl
theorem mq_L108n {M : mm_M} {f m k a i : Int32} (h : i < 0) : mf_165_L108 f m (k, a, i) M = some (.inl k, M) := by
  unfold mf_165_L108
  rw [mm_L_eq]
  unfold mf_165_b108
  dsimp only
  rw [if_pos h]; rfl
theorem mq_cby1 {f g m : Int32} {F G : Nat} (hf : f.toInt = F) (hg : g.toInt = G) (hm : ∀ k, k < 768 → F + k < 14340 ∧ G + k = mq_mp (F + k)) (d : Nat) : ∀ {M N : mm_M} {k i : Int32} {n j : Nat}, mq_W M N → mq_cx M N → k.toInt = n → i.toInt = 7 - j → j + d = 8 → 2 ^ j ≤ n → n < 2 ^ (j + 1) → mq_2 mq_XE (mm_B (mf_165_L108 f m (k, 1, i) M) (fun r M => mf_165_L178 f r M)) (mf_241_L118 g m (1, k, i) N) (fun v M2 b N2 => v = b ∧ 256 ≤ v.toInt ∧ v.toInt < 512 ∧ mq_W M2 N2 ∧ mq_cx M2 N2) := by
  induction d with
  | zero =>
    intro M N k i n j hW hc hk hi hj n0 n1
    have : j = 8 := by omega
    subst this
    have n0 : 256 ≤ n := n0
    have n1 : n < 512 := n1
    have c : i < 0 := by rw [Int32.lt_iff_toInt_lt]; simp only [Int32.reduceToInt]; omega
    rw [mq_L108n c, mq_Bs]
    unfold mf_165_L178 mf_241_L118
    rw [mm_L_eq, mm_L_eq]
    unfold mf_165_b178 mf_241_b118
    dsimp only
    rw [if_neg (show ¬ k < 256 from by rw [Int32.lt_iff_toInt_lt]; simp only [Int32.reduceToInt]; omega), if_pos c]
    exact mq_2_ret ⟨rfl, by omega, by omega, hW, hc⟩
  | succ d ih =>
    intro M N k i n j hW hc hk hi hj n0 n1
    have hpj2 : 2 ^ (j + 1) ≤ 2 ^ 8 := Nat.pow_le_pow_right (by decide) (by omega)
    have hj1 : j + 1 + d = 8 := by omega
    have hj2 : j + 1 ≤ 8 := by omega
    have c : ¬ i < 0 := by rw [Int32.lt_iff_toInt_lt]; simp only [Int32.reduceToInt]; omega
    have ei : (i + -1).toInt = 7 - ((j + 1 : Nat) : Int) := by rw [mi_add, show (-1 : Int32).toInt = -1 from rfl]; omega
    have l1 : mf_165_L108 f m (k, 1, i) M = mm_B (mf_161 (((f + (256 : Int32)) + ((256 : Int32) * ((mm_shr m i) &&& (1 : Int32)))) + k) M) (fun r1 M2 => if r1 = ((mm_shr m i) &&& (1 : Int32)) then mf_165_L108 f m ((2 : Int32) * k + r1, 1, i + -1) M2 else mf_165_L108 f m ((2 : Int32) * k + r1, 0, i + -1) M2) := by
      unfold mf_165_L108
      rw [mm_L_eq]
      show mm_B (mf_165_b108 f k m 1 i M) _ = _
      unfold mf_165_b108
      rw [if_neg c, if_neg (show ¬ (1 : Int32) = 0 from by decide), mq_Ba]
      refine congrArg (mm_B _) (funext fun r1 => funext fun M2 => ?_)
      by_cases q : r1 = mm_shr m i &&& 1
      · rw [if_pos q, if_pos q]; rfl
      · rw [if_neg q, if_neg q]; rfl
    have l2 : mf_241_L118 g m (1, k, i) N = mm_B (mf_233 ((g + ((256 : Int32) + ((256 : Int32) * ((mm_shr m i) &&& (1 : Int32))))) + k) N) (fun r1 M2 => if r1 = ((mm_shr m i) &&& (1 : Int32)) then mf_241_L118 g m (1, (2 : Int32) * k + r1, i + -1) M2 else mf_241_L118 g m (0, (2 : Int32) * k + r1, i + -1) M2) := by
      unfold mf_241_L118
      rw [mm_L_eq]
      show mm_B (mf_241_b118 g 1 m k i N) _ = _
      unfold mf_241_b118 mf_241_j152
      rw [if_neg c, if_neg (show ¬ (1 : Int32) = 0 from by decide), mq_Ba]
      refine congrArg (mm_B _) (funext fun r1 => funext fun M2 => ?_)
      rw [if_neg (show ¬ (1 : Int32) = 0 from by decide)]
      by_cases q : r1 = mm_shr m i &&& 1
      · rw [if_pos q, if_pos q]; rfl
      · rw [if_neg q, if_neg q]; rfl
    rw [l1, l2, mq_Ba]
    generalize hdu : mm_shr m i &&& 1 = du
    have hdu2 : du = 0 ∨ du = 1 := by rw [← hdu]; exact mi_and1 _
    have dd := mi_b01 hdu2
    obtain ⟨m1, m2⟩ := hm (256 + 256 * du.toInt.toNat + n) (by omega)
    have hlt := mq_mp_lt m1
    have a1 : (256 * du).toInt = ((256 * du.toInt.toNat : Nat) : Int) := by rw [mi_mul]; simp only [Int32.reduceToInt]; omega
    have a2 : (f + 256).toInt = ((F + 256 : Nat) : Int) := by rw [mi_add, hf]; simp only [Int32.reduceToInt]; omega
    have a3 : (f + 256 + 256 * du).toInt = ((F + 256 + 256 * du.toInt.toNat : Nat) : Int) := by rw [mi_add, a1, a2]; omega
    have a4 : (f + 256 + 256 * du + k).toInt = ((F + (256 + 256 * du.toInt.toNat + n) : Nat) : Int) := by rw [mi_add, a3, hk]; omega
    have b2 : (256 + 256 * du).toInt = ((256 + 256 * du.toInt.toNat : Nat) : Int) := by rw [mi_add, a1]; simp only [Int32.reduceToInt]; omega
    have b3 : (g + (256 + 256 * du)).toInt = ((G + (256 + 256 * du.toInt.toNat) : Nat) : Int) := by rw [mi_add, b2, hg]; omega
    have b4 : (g + (256 + 256 * du) + k).toInt = ((G + (256 + 256 * du.toInt.toNat + n) : Nat) : Int) := by rw [mi_add, b3, hk]; omega
    refine mq_2_B (mq_cbit hW hc (i := f + 256 + 256 * du + k) (j := g + (256 + 256 * du) + k) (by omega) (by omega) (by rw [a4, b4, m2]; rfl)) ?_ ?_
    · rintro v M3 b N3 ⟨rfl, v1, w3, c3⟩
      have ek := mi_2kb hk (by omega) v1
      have vv := mi_b01 v1
      have q1 : 2 ^ (j + 1) ≤ 2 * n + v.toInt.toNat := by rw [Nat.pow_succ]; omega
      have q2 : 2 * n + v.toInt.toNat < 2 ^ (j + 1 + 1) := by rw [Nat.pow_succ] at n1 ⊢; omega
      have q3 : (2 * k + v).toInt = ((2 * n + v.toInt.toNat : Nat) : Int) := by omega
      by_cases q : v = du
      · rw [if_pos q, if_pos q]
        exact ih w3 c3 q3 ei hj1 q1 q2
      · rw [if_neg q, if_neg q, mq_L108z, mq_Bs]
        exact mq_cby0 w3 c3 hf hg hm q3 ei hj2 q1 q2
    · rintro M3 b N3 ⟨_, hx⟩
      exact mq_1_ite (fun _ => mq_xd hx (fun z => md_241_L118 z mq_ob_refl)) (fun _ => mq_xd hx (fun z => md_241_L118 z mq_ob_refl))
