/-! FORM 10: which family -/
/-- which family -/
theorem mi_fam {size before lc lp : Int32} {a b : Nat} (hs : 0 ≤ size.toInt) (h0 : 0 ≤ before.toInt) (h1 : before.toInt < 256) (ha : lc.toInt = a) (hb : lp.toInt = b) (hab : a + b ≤ 4) : ∃ F : Nat, F < 16 ∧ (mm_shl (size &&& (mm_shl 1 lp - 1)) lc + mm_shr before (8 - lc)).toInt = F ∧ ((size &&& (mm_shl 1 lp - 1)) * mm_shl 1 lc + mm_shr before (8 - lc)).toInt = F := by
  have e1 := mi_lowb (x := size) hb (by omega)
  have hpa : 2 ^ a ≤ 2 ^ 4 := Nat.pow_le_pow_right (by decide) (by omega)
  have hpb : 2 ^ b ≤ 2 ^ 4 := Nat.pow_le_pow_right (by decide) (by omega)
  have hpab : 2 ^ b * 2 ^ a ≤ 2 ^ 4 := by rw [← Nat.pow_add]; exact Nat.pow_le_pow_right (by decide) (by omega)
  have hpos : 0 < 2 ^ b := Nat.pow_pos (by decide)
  generalize hx : size &&& (mm_shl 1 lp - 1) = x at e1
  have hx0 : x.toInt = ((size.toInt.toNat % 2 ^ b : Nat) : Int) := by rw [e1, Int.natCast_emod, Int.toNat_of_nonneg hs]
  have hxl : size.toInt.toNat % 2 ^ b < 2 ^ b := Nat.mod_lt _ hpos
  generalize size.toInt.toNat % 2 ^ b = X at hx0 hxl
  have hmul : (X + 1) * 2 ^ a ≤ 2 ^ b * 2 ^ a := Nat.mul_le_mul_right _ hxl
  rw [Nat.add_mul, Nat.one_mul] at hmul
  have hpos2 : 0 < 2 ^ a := Nat.pow_pos (by decide)
  have hXa : X * 2 ^ a ≤ 16 := by omega
  have s1 := mi_shl (x := x) (k := lc) (a := X) (j := a) hx0 ha (by omega) (Nat.lt_of_le_of_lt hXa (by decide))
  have s2 := mi_shl1' (m := lc) (by omega) (by omega)
  have ea : lc.toInt.toNat = a := by omega
  rw [ea] at s2
  have s3 : (x * mm_shl 1 lc).toInt = ((X * 2 ^ a : Nat) : Int) := by rw [mi_mul, hx0, s2, ← Int.natCast_mul]; generalize X * 2 ^ a = Y at hXa; omega
  have e8 : (8 - lc).toInt = ((8 - a : Nat) : Int) := by rw [mi_sub, ha]; simp only [Int32.reduceToInt]; omega
  have e8n : (8 - lc).toInt.toNat = 8 - a := by omega
  have s4 := mi_shr_nat (x := before) (k := 8 - lc) h0 (by omega) (by omega)
  rw [e8n] at s4
  have hB : before.toInt.toNat / 2 ^ (8 - a) < 2 ^ a := by
    apply Nat.div_lt_of_lt_mul
    rw [← Nat.pow_add, show 8 - a + a = 8 from by omega]
    omega
  have s5 : (mm_shr before (8 - lc)).toInt = ((before.toInt.toNat / 2 ^ (8 - a) : Nat) : Int) := by
    rw [s4, Int.natCast_ediv, Int.toNat_of_nonneg h0]
  generalize before.toInt.toNat / 2 ^ (8 - a) = B at hB s5
  generalize X * 2 ^ a = Y at hXa hmul s1 s3
  refine ⟨Y + B, by omega, ?_, ?_⟩
  · rw [mi_add, s1, s5]; omega
  · rw [mi_add, s3, s5]; omega
