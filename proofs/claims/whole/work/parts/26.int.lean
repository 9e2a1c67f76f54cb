/-! INTS -/
theorem mi_bm (x : Int) : x.bmod (2 ^ 32) = (x + 2147483648) % 4294967296 - 2147483648 := by
  rw [Int.bmod_def]
  have : ((2 ^ 32 : Nat) : Int) = 4294967296 := rfl
  rw [this]
  split <;> omega
theorem mi_add (a b : Int32) : (a + b).toInt = (a.toInt + b.toInt + 2147483648) % 4294967296 - 2147483648 := by rw [Int32.toInt_add, mi_bm]
theorem mi_sub (a b : Int32) : (a - b).toInt = (a.toInt - b.toInt + 2147483648) % 4294967296 - 2147483648 := by rw [Int32.toInt_sub, mi_bm]
theorem mi_mul (a b : Int32) : (a * b).toInt = (a.toInt * b.toInt + 2147483648) % 4294967296 - 2147483648 := by rw [Int32.toInt_mul, mi_bm]
theorem mi_neg (a : Int32) : (-a).toInt = (-a.toInt + 2147483648) % 4294967296 - 2147483648 := by rw [Int32.toInt_neg, mi_bm]
theorem mq_cl (a : Int32) : a.toNatClampNeg = a.toInt.toNat := rfl
theorem mq_lo (a : Int32) : -2147483648 ≤ a.toInt := a.le_toInt
theorem mq_hi (a : Int32) : a.toInt < 2147483648 := a.toInt_lt
theorem mq_in (i : Int32) (n : Nat) : (mm_in i n = true) = (0 ≤ i.toInt ∧ i.toInt < n) := by
  simp only [mm_in, Bool.and_eq_true, Bool.not_eq_true', decide_eq_false_iff_not, decide_eq_true_eq, Int32.lt_iff_toInt_lt, mq_cl, eq_iff_iff]
  have : (0 : Int32).toInt = 0 := rfl
  rw [this]
  omega
theorem mq_inr {i : Int32} {n : Nat} (h0 : 0 ≤ i.toInt) (h1 : i.toInt < n) : mm_in i n = true := by rw [mq_in]; exact ⟨h0, h1⟩
theorem mq_p1 (M : mm_M) (p i : Nat) (v : Int32) (q j : Nat) : (mm_pi M p i v).1 q j = if q = p then (if j = i then v else M.1 q j) else M.1 q j := rfl
theorem mq_p2 (M : mm_M) (p i : Nat) (v : Int32) : (mm_pi M p i v).2.1 = M.2.1 := rfl
theorem mq_p3 (M : mm_M) (p i : Nat) (v : Int64) : (mm_pl M p i v).1 = M.1 := rfl
theorem mq_p4 (M : mm_M) (p i : Nat) (v : Int64) (q j : Nat) : (mm_pl M p i v).2.1 q j = if q = p then (if j = i then v else M.2.1 q j) else M.2.1 q j := rfl
theorem mq_th1 (M : mm_M) : (mm_th M).1 = M.1 := rfl
theorem mq_th2 (M : mm_M) : (mm_th M).2.1 = M.2.1 := rfl
def mq_T (M N : mm_M) : Prop := M.1 1 1 = N.1 84 2 ∧ 0 ≤ (M.1 1 1).toInt ∧ (M.1 1 1).toInt ≤ 10000 ∧ ∀ j : Nat, (j : Int) < (M.1 1 1).toInt → M.1 2 j = N.1 85 j ∧ 0 ≤ (M.1 2 j).toInt ∧ (M.1 2 j).toInt < 256
def mq_U (M N : mm_M) : Prop := M.1 3 1 = N.1 84 4 ∧ 0 ≤ (M.1 3 1).toInt ∧ (M.1 3 1).toInt ≤ 16384 ∧ ∀ j : Nat, (j : Int) < (M.1 3 1).toInt → M.1 4 j = N.1 86 j ∧ 0 ≤ (M.1 4 j).toInt ∧ (M.1 4 j).toInt < 256
def mq_V (M N : mm_M) : Prop := M.1 1 2 = N.1 84 5 ∧ M.1 3 2 = N.1 84 8 ∧ M.1 3 3 = N.1 84 9 ∧ M.1 3 4 = N.1 84 10 ∧ M.1 3 5 = N.1 84 11 ∧ M.1 3 6 = N.1 84 12
/-- the bits that are held -/
def mq_G (M N : mm_M) : Prop := M.1 1 6 = N.1 84 15 ∧ 0 ≤ (M.1 1 6).toInt ∧ (M.1 1 6).toInt < 8 ∧ (M.1 1 6 ≠ 0 → M.1 1 5 = N.1 84 14)
/-- how far it may be read -/
def mq_H (M N : mm_M) : Prop := N.1 84 7 = 0 ∧ 0 ≤ (M.1 1 2).toInt ∧ (M.1 1 2).toInt ≤ (M.1 1 3).toInt ∧ (M.1 1 3).toInt ≤ (M.1 1 1).toInt ∧ ((M.1 1 3).toInt = (M.1 1 1).toInt ∧ (M.1 1 1).toInt ≤ (N.1 84 6).toInt ∨ (M.1 1 3).toInt = (N.1 84 6).toInt)
def mq_S (M N : mm_M) : Prop := mq_T M N ∧ mq_U M N ∧ mq_V M N ∧ mq_G M N ∧ mq_H M N
def mq_X (M N : mm_M) : Prop := mq_T M N ∧ mq_U M N ∧ mq_V M N ∧ N.1 84 7 = 1 ∧ 0 ≤ (M.1 1 2).toInt ∧ (M.1 1 2).toInt ≤ (M.1 1 1).toInt
/-- how many bits are left of the tape -/
def mq_rem (M : mm_M) : Int := 8 * ((M.1 1 1).toInt - (M.1 1 2).toInt) + (M.1 1 6).toInt
theorem mq_next {M N : mm_M} (h : mq_S M N) (hb : N.1 84 15 = 0) : mq_2 (fun M _ N => mq_X M N) (mf_44 M) (mf_191 N) (fun v M2 b N2 => v = b ∧ 0 ≤ v.toInt ∧ v.toInt < 256 ∧ mq_S M2 N2 ∧ N2.1 84 15 = 0 ∧ (M2.1 1 2).toInt = (M.1 1 2).toInt + 1) := by
  obtain ⟨hT, hU, hV, hG, hH⟩ := h
  have hT0 := hT
  have hV0 := hV
  obtain ⟨t1, t2, t3, t4⟩ := hT
  obtain ⟨v1, v2⟩ := hV
  obtain ⟨w, a1, a2, a3, a4⟩ := hH
  have e1 : (N.1 84 2).toInt = (M.1 1 1).toInt := by rw [t1]
  have e2 : (N.1 84 5).toInt = (M.1 1 2).toInt := by rw [v1]
  unfold mf_44 mf_191
  refine mq_2_il (fun c => ?_) (fun c => ?_)
  · rw [Int32.lt_iff_toInt_lt] at c
    have hi : mm_in (M.1 1 2) 10000 = true := mq_inr (by omega) (by omega)
    have hj : N.1 84 5 + 1 - 1 = N.1 84 5 := by grind
    rw [if_pos hi, if_pos w, if_pos (by rw [Int32.lt_iff_toInt_lt]; omega), if_pos (by rw [Int32.lt_iff_toInt_lt]; omega), hj, if_pos (by rw [← v1]; exact hi)]
    obtain ⟨q1, q2, q3⟩ := t4 (M.1 1 2).toNatClampNeg (by rw [mq_cl]; omega)
    refine mq_2_ret ⟨by rw [← v1]; exact q1, q2, q3, ⟨hT0, hU, ⟨?_, v2⟩, ?_, ?_⟩, hb, ?_⟩
    · show M.1 1 2 + 1 = N.1 84 5 + 1
      rw [v1]
    · exact ⟨hb.symm, (by decide : 0 ≤ (0 : Int32).toInt), (by decide : (0 : Int32).toInt < 8), fun q => absurd rfl q⟩
    · refine ⟨w, ?_, ?_, a3, a4⟩
      · show 0 ≤ (M.1 1 2 + 1).toInt
        rw [mi_add]; simp only [Int32.reduceToInt]; omega
      · show (M.1 1 2 + 1).toInt ≤ (M.1 1 3).toInt
        rw [mi_add]; simp only [Int32.reduceToInt]; omega
    · show (M.1 1 2 + 1).toInt = _
      rw [mi_add]; simp only [Int32.reduceToInt]; omega
  · rw [Int32.lt_iff_toInt_lt] at c
    rw [if_pos w]
    unfold mf_191_j29 mf_190
    refine mq_2_ir (fun d => ?_) (fun d => ?_)
    · refine mq_2_ir (fun d2 => ?_) (fun d2 => ?_)
      · rw [Int32.lt_iff_toInt_lt] at d d2; omega
      · exact mq_2_thr ⟨hT0, hU, hV0, rfl, a1, by show (M.1 1 2).toInt ≤ (M.1 1 1).toInt; omega⟩
    · exact mq_2_thr ⟨hT0, hU, hV0, rfl, a1, by show (M.1 1 2).toInt ≤ (M.1 1 1).toInt; omega⟩
