/-! FORM 10: trees, in step -/
theorem mi_2kb {k b : Int32} {n : Nat} (hk : k.toInt = n) (hn : n < 1048576) (hb : b = 0 ∨ b = 1) : (2 * k + b).toInt = 2 * n + b.toInt := by
  rcases hb with rfl | rfl
  · rw [mi_add, mi_mul]; simp only [Int32.reduceToInt]; omega
  · rw [mi_add, mi_mul]; simp only [Int32.reduceToInt]; omega
theorem mi_b01 {b : Int32} (hb : b = 0 ∨ b = 1) : 0 ≤ b.toInt ∧ b.toInt ≤ 1 := by
  rcases hb with rfl | rfl <;> decide
theorem mq_ctree {M N : mm_M} {f g bits : Int32} {F G B : Nat} (hW : mq_W M N) (hc : mq_cx M N) (hf : f.toInt = F) (hg : g.toInt = G) (hb : bits.toInt = B) (hB : B ≤ 8) (hm : ∀ k, k < 2 ^ B → F + k < 14340 ∧ G + k = mq_mp (F + k)) : mq_2 mq_XE (mf_163 f bits M) (mf_234 g bits N) (fun v M2 b N2 => v = b ∧ (∃ n, v.toInt = ((n : Nat) : Int) ∧ n < 2 ^ B) ∧ mq_W M2 N2 ∧ mq_cx M2 N2) := by
  have h2 : 2 ^ B ≤ 2 ^ 8 := Nat.pow_le_pow_right (by decide) hB
  unfold mf_163 mf_234
  refine mq_2_B (E := mq_XE) (P := fun v M2 b N2 => v = b ∧ (∃ n, v.toInt = ((n : Nat) : Int) ∧ 2 ^ B ≤ n ∧ n < 2 ^ (B + 1)) ∧ mq_W M2 N2 ∧ mq_cx M2 N2) ?_ ?_ (fun _ _ _ hx => mq_1_ret hx)
  · unfold mf_163_L5 mf_234_L5
    refine mq_2_L (I := fun (a : Int32 × Int32) M2 (b : Int32 × Int32) N2 => a = b ∧ (∃ n j : Nat, a.1.toInt = n ∧ a.2.toInt = j ∧ j ≤ B ∧ 2 ^ j ≤ n ∧ n < 2 ^ (j + 1)) ∧ mq_W M2 N2 ∧ mq_cx M2 N2) (J := fun M (_ : Int32 × Int32) N => mq_X M N) (m := fun (a : Int32 × Int32) _ => ((B : Int) - a.2.toInt).toNat) ?_ ?_ ⟨rfl, ⟨1, 0, rfl, rfl, by omega, by decide, by decide⟩, hW, hc⟩
    · rintro ⟨k, i⟩ M2 b N2 ⟨rfl, ⟨n, j, hk, hi, hj, n0, n1⟩, w2, c2⟩
      dsimp only at hk hi
      unfold mf_163_b5 mf_234_b5
      dsimp only
      by_cases c : i < bits
      · rw [if_pos c, if_pos c]
        rw [Int32.lt_iff_toInt_lt, hi, hb] at c
        have hp : 2 ^ (j + 1) ≤ 2 ^ B := Nat.pow_le_pow_right (by decide) (by omega)
        obtain ⟨m1, m2⟩ := hm n (by omega)
        have e1 : (f + k).toInt = ((F + n : Nat) : Int) := by rw [mi_add]; omega
        have e2 : (g + k).toInt = ((G + n : Nat) : Int) := by have := mq_mp_lt m1; rw [mi_add]; omega
        have ei : (i + 1).toInt = ((j + 1 : Nat) : Int) := by rw [mi_add]; simp only [Int32.reduceToInt]; omega
        refine mq_2_B (mq_cbit w2 c2 (i := f + k) (j := g + k) (by omega) (by omega) (by rw [e1, e2, m2]; rfl)) ?_ ?_
        · rintro v M3 b N3 ⟨rfl, v1, w3, c3⟩
          have ek := mi_2kb hk (by omega) v1
          have vv := mi_b01 v1
          refine mq_2_ret (.inl ⟨_, _, rfl, rfl, ⟨rfl, ⟨2 * n + v.toInt.toNat, j + 1, by dsimp only; omega, ei, by omega, ?_, ?_⟩, w3, c3⟩, by dsimp only; omega⟩)
          · rw [Nat.pow_succ]; omega
          · rw [Nat.pow_succ] at n1 ⊢; omega
        · rintro M3 b N3 ⟨_, hx⟩
          exact mq_1_ret (.inl ⟨_, rfl, hx⟩)
      · rw [if_neg c, if_neg c]
        rw [Int32.lt_iff_toInt_lt, hi, hb] at c
        have : j = B := by omega
        subst this
        exact mq_2_ret (.inr ⟨_, _, rfl, rfl, rfl, ⟨n, hk, n0, n1⟩, w2, c2⟩)
    · intro M2 b N2 hx
      exact mq_xd hx (fun z => md_234_L5 z mq_ob_refl)
  · rintro v M2 b N2 ⟨rfl, ⟨n, hn, n0, n1⟩, w2, c2⟩
    have es : (mm_shl 1 bits).toInt = ((2 ^ B : Nat) : Int) := by
      have := mi_shl1' (m := bits) (by omega) (by omega)
      rw [this, hb]; rfl
    refine mq_2_ret ⟨rfl, ⟨n - 2 ^ B, ?_, ?_⟩, w2, c2⟩
    · rw [mi_sub, es, hn]
      rw [Nat.pow_succ] at n1
      omega
    · rw [Nat.pow_succ] at n1
      omega
