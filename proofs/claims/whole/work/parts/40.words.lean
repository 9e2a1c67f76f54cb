/-! FORMS 4 AND 5: WORDS -/
theorem mq_top {v : Int32} {M : mm_M} (h : 1 ≤ v.toInt) : ∃ r : Int32, mf_34 v M = some (.inl r, M) ∧ 0 ≤ r.toInt ∧ r.toInt ≤ 30 ∧ ((2 ^ r.toInt.toNat : Nat) : Int) ≤ v.toInt ∧ v.toInt < ((2 ^ (r.toInt.toNat + 1) : Nat) : Int) := by
  have main : mq_1 (mf_34 v M) (fun r M2 => M2 = M ∧ 0 ≤ r.toInt ∧ r.toInt ≤ 30 ∧ ((2 ^ r.toInt.toNat : Nat) : Int) ≤ v.toInt ∧ v.toInt < ((2 ^ (r.toInt.toNat + 1) : Nat) : Int)) := by
    unfold mf_34
    refine mq_1_B (P := fun r M2 => M2 = M ∧ 0 ≤ r.toInt ∧ r.toInt ≤ 30 ∧ ((2 ^ r.toInt.toNat : Nat) : Int) ≤ v.toInt ∧ v.toInt < ((2 ^ (r.toInt.toNat + 1) : Nat) : Int)) ?_ (fun _ _ q => mq_1_ret q)
    unfold mf_34_L6
    have hv := mq_hi v
    have one : ((2 ^ (1 : Int32).toInt.toNat : Nat) : Int) = 2 := rfl
    refine mq_1_L (I := fun a M2 => M2 = M ∧ 0 ≤ a.1.toInt ∧ a.1.toInt ≤ 30 ∧ a.2.toInt = v.toInt / ((2 ^ (a.1.toInt.toNat + 1) : Nat) : Int) ∧ ((2 ^ a.1.toInt.toNat : Nat) : Int) ≤ v.toInt) (m := fun a _ => a.2.toInt.toNat) ?_ ⟨rfl, (by decide : 0 ≤ (0 : Int32).toInt), (by decide : (0 : Int32).toInt ≤ 30), ?_, ?_⟩
    · rintro ⟨r, x⟩ M2 ⟨rfl, r0, r1, hx, hp⟩
      dsimp only at r0 r1 hx hp
      unfold mf_34_b6
      dsimp only
      refine mq_1_ite (fun c => ?_) (fun c => ?_)
      · rw [Int32.lt_iff_toInt_lt] at c
        simp only [Int32.reduceToInt] at c
        have hq : ((2 ^ (r.toInt.toNat + 1) : Nat) : Int) ≤ v.toInt := by
          have h0 : (0 : Int) < ((2 ^ (r.toInt.toNat + 1) : Nat) : Int) := by exact_mod_cast Nat.pow_pos (by decide)
          rw [hx] at c
          have := Int.mul_ediv_self_le (x := v.toInt) (k := ((2 ^ (r.toInt.toNat + 1) : Nat) : Int)) (by omega)
          have h3 : ((2 ^ (r.toInt.toNat + 1) : Nat) : Int) * 1 ≤ ((2 ^ (r.toInt.toNat + 1) : Nat) : Int) * (v.toInt / ((2 ^ (r.toInt.toNat + 1) : Nat) : Int)) := Int.mul_le_mul_of_nonneg_left (by omega) (by omega)
          omega
        have hr : r.toInt ≤ 29 := by
          by_cases g : r.toInt ≤ 29
          · exact g
          · have : r.toInt.toNat = 30 := by omega
            rw [this] at hq
            have : ((2 ^ (30 + 1) : Nat) : Int) = 2147483648 := by decide
            omega
        have e1 : (r + 1).toInt = r.toInt + 1 := by rw [mi_add]; simp only [Int32.reduceToInt]; omega
        have e2 : (r + 1).toInt.toNat = r.toInt.toNat + 1 := by omega
        have es : (mm_shr x 1).toInt = x.toInt / 2 := by rw [mi_shr_nat (by omega) (by decide) (by decide), one]
        refine mq_1_ret (.inl ⟨_, rfl, ⟨rfl, by dsimp only; omega, by dsimp only; omega, ?_, ?_⟩, ?_⟩)
        · dsimp only
          rw [es, hx, e2, Int.ediv_ediv_of_nonneg (by exact_mod_cast Nat.zero_le _)]
          congr 1
        · dsimp only
          rw [e2]; exact hq
        · dsimp only
          omega
      · rw [Int32.lt_iff_toInt_lt] at c
        simp only [Int32.reduceToInt] at c
        refine mq_1_ret (.inr ⟨_, rfl, rfl, r0, r1, hp, ?_⟩)
        have h0 : (0 : Int) < ((2 ^ (r.toInt.toNat + 1) : Nat) : Int) := by exact_mod_cast Nat.pow_pos (by decide)
        have h1 : v.toInt / ((2 ^ (r.toInt.toNat + 1) : Nat) : Int) < 1 := by omega
        have h2 := (Int.ediv_lt_iff_lt_mul h0).mp h1
        omega
    · rw [mi_shr_nat (by omega) (by decide) (by decide)]; rfl
    · show ((2 ^ (0 : Int32).toInt.toNat : Nat) : Int) ≤ v.toInt
      have : ((2 ^ (0 : Int32).toInt.toNat : Nat) : Int) = 1 := rfl
      omega
  obtain ⟨r, M2, e, rfl, q⟩ := main
  exact ⟨r, e, q⟩
theorem mi_shl1 : ∀ j : Fin 31, (mm_shl 1 (Int32.ofNat j.val)).toInt = ((2 ^ j.val : Nat) : Int) := by decide
theorem mi_shl1' {m : Int32} (h0 : 0 ≤ m.toInt) (h1 : m.toInt < 31) : (mm_shl 1 m).toInt = ((2 ^ m.toInt.toNat : Nat) : Int) := by
  have e : m = Int32.ofNat m.toInt.toNat := (Int32.ofNat_toNatClampNeg m (Int32.le_iff_toInt_le.mpr h0)).symm
  have h := mi_shl1 ⟨m.toInt.toNat, by omega⟩
  dsimp only at h
  rw [← e] at h
  exact h
theorem mq_top2 {m : Int32} {M : mm_M} (h0 : 0 ≤ m.toInt) (h1 : m.toInt ≤ 30) : mf_34 (mm_shl 1 m) M = some (.inl m, M) := by
  have e := mi_shl1' h0 (by omega)
  have hp : 0 < 2 ^ m.toInt.toNat := Nat.pow_pos (by decide)
  obtain ⟨r, er, r0, r1, r2, r3⟩ := mq_top (v := mm_shl 1 m) (M := M) (by omega)
  rw [e] at r2 r3
  have a := (Nat.pow_le_pow_iff_right (a := 2) (by decide)).mp (by exact_mod_cast r2 : 2 ^ r.toInt.toNat ≤ 2 ^ m.toInt.toNat)
  have b := (Nat.pow_lt_pow_iff_right (a := 2) (by decide)).mp (by exact_mod_cast r3 : 2 ^ m.toInt.toNat < 2 ^ (r.toInt.toNat + 1))
  have : r = m := Int32.toInt_inj.mp (by omega)
  rw [er, this]
