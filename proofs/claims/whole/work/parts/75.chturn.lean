/-! FORM 10: turned trees, in step -/
theorem mq_cturn {M N : mm_M} {f g bits : Int32} {F G B : Nat} (hW : mq_W M N) (hc : mq_cx M N) (hf : f.toInt = F) (hg : g.toInt = G) (hb : bits.toInt = B) (hB : B ≤ 8) (hm : ∀ k, k < 2 ^ B → F + k < 14340 ∧ G + k = mq_mp (F + k)) : mq_2 mq_XE (mf_164 f bits M) (mf_235 g bits N) (fun v M2 b N2 => (∃ n, v.toInt = ((n : Nat) : Int) ∧ mq_n b = n ∧ n < 2 ^ B) ∧ mq_W M2 N2 ∧ mq_cx M2 N2) := by
  have h2 : 2 ^ B ≤ 2 ^ 8 := Nat.pow_le_pow_right (by decide) hB
  unfold mf_164 mf_235
  refine mq_2_B (E := mq_XE) (P := fun v M2 b N2 => (∃ n, v.toInt = ((n : Nat) : Int) ∧ mq_n b = n ∧ n < 2 ^ B) ∧ mq_W M2 N2 ∧ mq_cx M2 N2) ?_ (fun _ _ _ _ q => mq_2_ret q) (fun _ _ _ hx => mq_1_ret hx)
  unfold mf_164_L8 mf_235_L8
  refine mq_2_L (I := fun (a : Int32 × Int32 × Int32) M2 (b : Int32 × Int64 × Int32) N2 => a.1 = b.1 ∧ a.2.2 = b.2.2 ∧ (∃ n j x : Nat, a.1.toInt = n ∧ a.2.2.toInt = j ∧ j ≤ B ∧ 2 ^ j ≤ n ∧ n < 2 ^ (j + 1) ∧ a.2.1.toInt = x ∧ mq_n b.2.1 = x ∧ x < 2 ^ j) ∧ mq_W M2 N2 ∧ mq_cx M2 N2) (J := fun M (_ : Int32 × Int64 × Int32) N => mq_X M N) (m := fun (a : Int32 × Int32 × Int32) _ => ((B : Int) - a.2.2.toInt).toNat) ?_ ?_ ⟨rfl, rfl, ⟨1, 0, 0, rfl, rfl, by omega, by decide, by decide, rfl, rfl, by decide⟩, hW, hc⟩
  · rintro ⟨k, y, i⟩ M2 ⟨k', z, i'⟩ N2 ⟨q1, q2, ⟨n, j, x, hk, hi, hj, n0, n1, hy, hz, hx⟩, w2, c2⟩
    dsimp only at hk hi hy hz q1 q2
    subst q1 q2
    unfold mf_164_b8 mf_235_b8
    dsimp only
    by_cases c : i < bits
    · rw [if_pos c, if_pos c]
      rw [Int32.lt_iff_toInt_lt, hi, hb] at c
      have hp : 2 ^ (j + 1) ≤ 2 ^ B := Nat.pow_le_pow_right (by decide) (by omega)
      obtain ⟨m1, m2⟩ := hm n (by omega)
      have e1 : (f + k).toInt = ((F + n : Nat) : Int) := by rw [mi_add]; omega
      have e2 : (g + k).toInt = ((G + n : Nat) : Int) := by have := mq_mp_lt m1; rw [mi_add]; omega
      have ei : (i + 1).toInt = ((j + 1 : Nat) : Int) := by rw [mi_add]; simp only [Int32.reduceToInt]; omega
      refine mq_2_B (mq_cbit w2 c2 (i := f + k) (j := g + k) (by omega) (by omega) (by rw [e1, e2, m2]; rfl)) ?_ ?_
      · rintro v M3 b N3 ⟨rfl, v1, w3, c3⟩
        have ek := mi_2kb hk (by omega) v1
        have vv := mi_b01 v1
        have hv : v.toInt = v.toInt.toNat := by omega
        have hpj : 2 ^ j ≤ 2 ^ 8 := Nat.pow_le_pow_right (by decide) (by omega)
        have hvp : v.toInt.toNat * 2 ^ j ≤ 2 ^ j := by
          rcases v1 with rfl | rfl
          · simp
          · exact Nat.le_of_eq (Nat.one_mul _)
        have t1 := mi_shl (x := v) (k := i) hv hi (by omega) (by omega)
        have t2 := mq_n_shl (x := v.toInt64) (k := i) (by omega) (by omega) (by rw [mq_n_i32 vv.1, hi]; show v.toInt.toNat * 2 ^ j < _; omega)
        rw [mq_n_i32 vv.1, hi] at t2
        have t2 : mq_n (mm_lshl v.toInt64 i) = 2 ^ j * v.toInt.toNat := t2
        have t3 := mq_n_or (x := z) (y := mm_lshl v.toInt64 i) (i := j) (b := v.toInt.toNat) (by omega) t2
        have t4 : (y ||| mm_shl v i).toInt = ((2 ^ j * v.toInt.toNat + x : Nat) : Int) := by
          rw [Int32.or_comm]
          refine mi_or (x := mm_shl v i) (y := y) ?_ hy hx ?_
          · rw [t1, Nat.mul_comm]
          · rw [Nat.mul_comm]; omega
        refine mq_2_ret (.inl ⟨_, _, rfl, rfl, ⟨rfl, rfl, ⟨2 * n + v.toInt.toNat, j + 1, 2 ^ j * v.toInt.toNat + x, by dsimp only; omega, ei, by omega, ?_, ?_, t4, ?_, ?_⟩, w3, c3⟩, by dsimp only; omega⟩)
        · rw [Nat.pow_succ]; omega
        · rw [Nat.pow_succ] at n1 ⊢; omega
        · dsimp only; rw [t3, hz]
        · rw [Nat.pow_succ, Nat.mul_comm]; omega
      · rintro M3 b N3 ⟨_, hx⟩
        exact mq_1_ret (.inl ⟨_, rfl, hx⟩)
    · rw [if_neg c, if_neg c]
      rw [Int32.lt_iff_toInt_lt, hi, hb] at c
      have : j = B := by omega
      subst this
      exact mq_2_ret (.inr ⟨_, _, rfl, rfl, ⟨x, hy, hz, hx⟩, w2, c2⟩)
  · intro M2 b N2 hx
    exact mq_xd hx (fun z => md_235_L8 z mq_ob_refl)
