/-! BITS AND BYTES, IN STEP -/
theorem mi_sh64 : ∀ j : Fin 64, ((Int32.ofNat j.val).toInt64 &&& 63).toBitVec.smod 64 = BitVec.ofNat 64 j.val := by decide
theorem mi_lshl {x : Int64} {k : Int32} (h0 : 0 ≤ k.toInt) (h1 : k.toInt < 64) : (mm_lshl x k).toBitVec = x.toBitVec <<< k.toInt.toNat := by
  have e : k = Int32.ofNat k.toInt.toNat := (Int32.ofNat_toNatClampNeg k (Int32.le_iff_toInt_le.mpr h0)).symm
  have h := mi_sh64 ⟨k.toInt.toNat, by omega⟩
  dsimp only at h
  rw [← e] at h
  unfold mm_lshl
  rw [Int64.toBitVec_shiftLeft, h]
  show x.toBitVec <<< (BitVec.ofNat 64 k.toInt.toNat).toNat = _
  rw [BitVec.toNat_ofNat, Nat.mod_eq_of_lt (by omega)]
def mq_n (x : Int64) : Nat := x.toBitVec.toNat
theorem mq_n_int {x : Int64} (h : mq_n x < 2 ^ 63) : x.toInt = mq_n x := by
  show x.toBitVec.toInt = _
  exact BitVec.toInt_eq_toNat_of_lt (by unfold mq_n at h; omega)
theorem mq_n_or {x y : Int64} {i b : Nat} (hx : mq_n x < 2 ^ i) (hy : mq_n y = 2 ^ i * b) : mq_n (x ||| y) = 2 ^ i * b + mq_n x := by
  have h : mq_n (x ||| y) = mq_n x ||| mq_n y := by
    unfold mq_n; rw [Int64.toBitVec_or, BitVec.toNat_or]
  rw [h, hy, Nat.or_comm, Nat.two_pow_add_eq_or_of_lt hx]
theorem mq_n_shl {x : Int64} {k : Int32} (h0 : 0 ≤ k.toInt) (h1 : k.toInt < 64) (h : mq_n x * 2 ^ k.toInt.toNat < 2 ^ 64) : mq_n (mm_lshl x k) = 2 ^ k.toInt.toNat * mq_n x := by
  unfold mq_n at h ⊢
  rw [mi_lshl h0 h1, BitVec.toNat_shiftLeft, Nat.shiftLeft_eq, Nat.mod_eq_of_lt h, Nat.mul_comm]
theorem mq_n_i32 {x : Int32} (h : 0 ≤ x.toInt) : mq_n x.toInt64 = x.toInt.toNat := by
  have h1 : x.toInt64.toInt = x.toInt := Int32.toInt_toInt64 x
  have h2 := mq_hi x
  have h3 : x.toInt64.toBitVec.toInt = x.toInt := h1
  rw [BitVec.toInt_eq_toNat_cond] at h3
  have := x.toInt64.toBitVec.isLt
  unfold mq_n
  split at h3 <;> omega
theorem mq_191_ok {N : mm_M} (w : N.1 84 7 = 0) (h1 : (N.1 84 5).toInt < (N.1 84 2).toInt) (h2 : (N.1 84 5).toInt < (N.1 84 6).toInt) (h0 : 0 ≤ (N.1 84 5).toInt) (h3 : (N.1 84 5).toInt < 10000) : mf_191 N = some (.inl (N.1 85 (N.1 84 5).toNatClampNeg), mm_pi N 84 5 (N.1 84 5 + 1)) := by
  have hj : N.1 84 5 + 1 - 1 = N.1 84 5 := by grind
  unfold mf_191
  rw [if_pos w, if_pos (by rw [Int32.lt_iff_toInt_lt]; exact h1), if_pos (by rw [Int32.lt_iff_toInt_lt]; exact h2), hj, if_pos (mq_inr h0 (by omega))]
theorem mq_191_bad {N : mm_M} (w : N.1 84 7 = 0) (h : ¬ ((N.1 84 5).toInt < (N.1 84 2).toInt ∧ (N.1 84 5).toInt < (N.1 84 6).toInt)) : mf_191 N = some (.inl 0, mm_pi N 84 7 1) := by
  unfold mf_191
  rw [if_pos w]
  by_cases c : N.1 84 5 < N.1 84 2
  · rw [if_pos c, if_neg (by rw [Int32.lt_iff_toInt_lt] at c ⊢; omega)]; rfl
  · rw [if_neg c]; rfl
theorem mi_bit (x : Int32) : x &&& 1 = 0 ∨ x &&& 1 = 1 := mi_and1 x
theorem mq_bitj {M N : mm_M} (hT : mq_T M N) (hU : mq_U M N) (hV : mq_V M N) (hH : mq_H M N) (g1 : M.1 1 6 = N.1 84 15) (g2 : 1 ≤ (M.1 1 6).toInt) (g3 : (M.1 1 6).toInt ≤ 8) (g4 : M.1 1 5 = N.1 84 14) (hf : M.1 1 4 = N.1 84 13) : mq_2 (fun M _ N => mq_X M N) (mf_45_j57 M) (mf_197_j21 N) (fun v M2 b N2 => v = b ∧ (v = 0 ∨ v = 1) ∧ mq_S M2 N2 ∧ M2.1 1 4 = N2.1 84 13 ∧ mq_rem M2 + 1 = mq_rem M) := by
  have e : (M.1 1 6 - 1).toInt = (M.1 1 6).toInt - 1 := by rw [mi_sub]; simp only [Int32.reduceToInt]; omega
  have hS : mq_S (mm_pi M 1 6 (M.1 1 6 - 1)) (mm_pi N 84 15 (N.1 84 15 - 1)) := by
    refine ⟨hT, hU, hV, ⟨?_, ?_, ?_, fun _ => g4⟩, hH⟩
    · show M.1 1 6 - 1 = N.1 84 15 - 1
      rw [g1]
    · show 0 ≤ (M.1 1 6 - 1).toInt
      omega
    · show (M.1 1 6 - 1).toInt < 8
      omega
  have hr : mq_rem (mm_pi M 1 6 (M.1 1 6 - 1)) + 1 = mq_rem M := by
    show 8 * ((M.1 1 1).toInt - (M.1 1 2).toInt) + (M.1 1 6 - 1).toInt + 1 = 8 * ((M.1 1 1).toInt - (M.1 1 2).toInt) + (M.1 1 6).toInt
    omega
  unfold mf_45_j57 mf_197_j21
  rw [if_pos hH.1]
  by_cases c : M.1 1 4 = 0
  · rw [if_pos c, if_pos (by rw [← hf]; exact c)]
    exact mq_2_ret ⟨by rw [g1, g4], mi_bit _, hS, hf, hr⟩
  · rw [if_neg c, if_neg (by rw [← hf]; exact c)]
    exact mq_2_ret ⟨by rw [g1, g4], mi_bit _, hS, hf, hr⟩
theorem mq_bit {M N : mm_M} (h : mq_S M N) (hf : M.1 1 4 = N.1 84 13) : mq_2 (fun M _ N => mq_X M N) (mf_45 M) (mf_197 N) (fun v M2 b N2 => v = b ∧ (v = 0 ∨ v = 1) ∧ mq_S M2 N2 ∧ M2.1 1 4 = N2.1 84 13 ∧ mq_rem M2 + 1 = mq_rem M) := by
  obtain ⟨hT, hU, hV, hG, hH⟩ := h
  obtain ⟨g1, g2, g3, g4⟩ := hG
  unfold mf_45 mf_197
  by_cases c : M.1 1 6 = 0
  · rw [if_pos c, if_pos (show N.1 84 15 = 0 from by rw [← g1]; exact c)]
    have hT0 := hT
    have hV0 := hV
    obtain ⟨t1, t2, t3, t4⟩ := hT
    obtain ⟨v1, v2⟩ := hV
    obtain ⟨w, a1, a2, a3, a4⟩ := hH
    have e1 : (N.1 84 2).toInt = (M.1 1 1).toInt := by rw [t1]
    have e2 : (N.1 84 5).toInt = (M.1 1 2).toInt := by rw [v1]
    by_cases d : M.1 1 2 < M.1 1 3
    · rw [if_pos d]
      rw [Int32.lt_iff_toInt_lt] at d
      rw [if_pos (mq_inr (by omega) (by omega)), mq_191_ok w (by omega) (by omega) (by omega) (by omega)]
      obtain ⟨q1, q2, q3⟩ := t4 (M.1 1 2).toNatClampNeg (by rw [mq_cl]; omega)
      have e3 : (M.1 1 2 + 1).toInt = (M.1 1 2).toInt + 1 := by rw [mi_add]; simp only [Int32.reduceToInt]; omega
      refine mq_2_mono (mq_bitj (M := mm_pi (mm_pi (mm_pi M 1 5 (M.1 2 (M.1 1 2).toNatClampNeg)) 1 2 (M.1 1 2 + 1)) 1 6 8) (N := mm_pi (mm_pi (mm_pi N 84 5 (N.1 84 5 + 1)) 84 14 (N.1 85 (N.1 84 5).toNatClampNeg)) 84 15 8) hT0 hU ⟨?_, v2⟩ ⟨w, ?_, ?_, a3, a4⟩ rfl (by decide : 1 ≤ (8 : Int32).toInt) (by decide : (8 : Int32).toInt ≤ 8) ?_ hf) ?_ (fun _ _ _ q => q)
      · show M.1 1 2 + 1 = N.1 84 5 + 1
        rw [v1]
      · show 0 ≤ (M.1 1 2 + 1).toInt
        omega
      · show (M.1 1 2 + 1).toInt ≤ (M.1 1 3).toInt
        omega
      · show M.1 2 (M.1 1 2).toNatClampNeg = N.1 85 (N.1 84 5).toNatClampNeg
        rw [q1, v1]
      · rintro v M2 b N2 ⟨q1, q2, q3, q4, q5⟩
        refine ⟨q1, q2, q3, q4, ?_⟩
        rw [q5]
        show 8 * ((M.1 1 1).toInt - (M.1 1 2 + 1).toInt) + (8 : Int32).toInt = 8 * ((M.1 1 1).toInt - (M.1 1 2).toInt) + (M.1 1 6).toInt
        rw [c]
        simp only [Int32.reduceToInt]
        omega
    · rw [if_neg d]
      rw [Int32.lt_iff_toInt_lt] at d
      rw [mq_191_bad w (by omega)]
      exact mq_2_thr ⟨hT0, hU, hV0, rfl, a1, by show (M.1 1 2).toInt ≤ (M.1 1 1).toInt; omega⟩
  · rw [if_neg c, if_neg (show ¬ N.1 84 15 = 0 from by rw [← g1]; exact c)]
    refine mq_bitj hT hU hV hH g1 ?_ (by omega) (g4 c) hf
    have : (M.1 1 6).toInt ≠ 0 := fun q => c (Int32.toInt_inj.mp q)
    omega
theorem md_198L {N : mm_M} {v : Int32} {s : Int64 × Int32} (h : mq_Z N) : mq_D N (mf_198_L5 v s N) := by
  unfold mf_198_L5
  refine mq_d_L ?_
  unfold mf_198_b5
  refine mq_1_ite (fun _ => ?_) (fun _ => mq_1_ret ⟨⟨_, rfl⟩, mq_ob_refl⟩)
  rw [if_neg (by rw [h.1]; decide)]
  exact mq_1_ret ⟨⟨_, rfl⟩, mq_ob_refl⟩
theorem mq_bits {M N : mm_M} {n : Int32} (h : mq_S M N) (hf : M.1 1 4 = N.1 84 13) (h0 : 0 ≤ n.toInt) (h1 : n.toInt ≤ 62) : mq_2 (fun M _ N => mq_X M N) (mf_46 n M) (mf_198 n N) (fun v M2 b N2 => v = b ∧ mq_n v < 2 ^ n.toInt.toNat ∧ mq_S M2 N2 ∧ M2.1 1 4 = N2.1 84 13 ∧ mq_rem M2 + n.toInt = mq_rem M) := by
  unfold mf_46 mf_198
  refine mq_2_B (E := fun M _ N => mq_X M N) (P := fun v M2 b N2 => v = b ∧ mq_n v < 2 ^ n.toInt.toNat ∧ mq_S M2 N2 ∧ M2.1 1 4 = N2.1 84 13 ∧ mq_rem M2 + n.toInt = mq_rem M) ?_ (fun v M2 b N2 q => mq_2_ret q) (fun M2 b N2 q => mq_1_ret q)
  unfold mf_46_L5 mf_198_L5
  refine mq_2_L (I := fun a M2 b N2 => a = b ∧ 0 ≤ a.2.toInt ∧ a.2.toInt ≤ n.toInt ∧ mq_n a.1 < 2 ^ a.2.toInt.toNat ∧ mq_S M2 N2 ∧ M2.1 1 4 = N2.1 84 13 ∧ mq_rem M2 + a.2.toInt = mq_rem M) (J := fun M _ N => mq_X M N) (m := fun a _ => (n.toInt - a.2.toInt).toNat) ?_ ?_ ⟨rfl, by decide, h0, by decide, h, hf, by simp only [Int32.reduceToInt]; omega⟩
  · rintro ⟨x, k⟩ M2 b N2 ⟨rfl, k0, k1, hx, hS, hf, hr⟩
    dsimp only at k0 k1 hx hr
    unfold mf_46_b5 mf_198_b5
    dsimp only
    have ek : k.toInt < n.toInt → (k + 1).toInt = k.toInt + 1 := by intro c; rw [mi_add]; simp only [Int32.reduceToInt]; omega
    by_cases c : k < n
    · rw [if_pos c, if_pos c, if_pos hS.2.2.2.2.1]
      rw [Int32.lt_iff_toInt_lt] at c
      have ek := ek c
      have ep : (k.toInt + 1).toNat = k.toInt.toNat + 1 := by omega
      refine mq_2_B (mq_bit hS hf) ?_ ?_
      · rintro v M3 b N3 ⟨rfl, hv, hS3, hf3, hr3⟩
        have hvn : mq_n v.toInt64 ≤ 1 := by
          rcases hv with e | e <;> rw [e] <;> decide
        have hp : 2 ^ k.toInt.toNat ≤ 2 ^ 61 := Nat.pow_le_pow_right (by decide) (by omega)
        by_cases c4 : M3.1 1 4 = 0
        · rw [if_pos c4, if_pos (by rw [← hf3]; exact c4)]
          refine mq_2_ret (.inl ⟨_, _, rfl, rfl, ⟨rfl, ?_, ?_, ?_, hS3, hf3, ?_⟩, ?_⟩)
          · dsimp only; omega
          · dsimp only; omega
          · dsimp only
            have hm : mq_n v.toInt64 * 2 ^ k.toInt.toNat ≤ 1 * 2 ^ k.toInt.toNat := Nat.mul_le_mul_right _ hvn
            rw [mq_n_or hx (mq_n_shl k0 (by omega) (by omega)), ek, ep, Nat.pow_succ]
            have hm2 : 2 ^ k.toInt.toNat * mq_n v.toInt64 ≤ 2 ^ k.toInt.toNat * 1 := Nat.mul_le_mul_left _ hvn
            omega
          · dsimp only; omega
          · dsimp only; omega
        · rw [if_neg c4, if_neg (by rw [← hf3]; exact c4)]
          refine mq_2_ret (.inl ⟨_, _, rfl, rfl, ⟨rfl, ?_, ?_, ?_, hS3, hf3, ?_⟩, ?_⟩)
          · dsimp only; omega
          · dsimp only; omega
          · dsimp only
            have h1 : (1 : Int32).toInt.toNat = 1 := rfl
            have hs : mq_n (mm_lshl x 1) = 2 ^ 1 * mq_n x := by
              have := mq_n_shl (x := x) (k := 1) (by decide) (by decide) (by rw [h1]; omega)
              rw [h1] at this; exact this
            have hc : mq_n (mm_lshl x 1 ||| v.toInt64) = mq_n (v.toInt64 ||| mm_lshl x 1) := by
              unfold mq_n; rw [Int64.toBitVec_or, Int64.toBitVec_or, BitVec.or_comm]
            rw [hc, mq_n_or (i := 1) (by omega) hs, ek, ep, Nat.pow_succ]
            omega
          · dsimp only; omega
          · dsimp only; omega
      · intro M3 b N3 hx
        exact mq_1_ite (fun _ => mq_1_ret (.inl ⟨_, rfl, hx⟩)) (fun _ => mq_1_ret (.inl ⟨_, rfl, hx⟩))
    · rw [if_neg c, if_neg c]
      rw [Int32.lt_iff_toInt_lt] at c
      have : k.toInt = n.toInt := by omega
      exact mq_2_ret (.inr ⟨_, _, rfl, rfl, rfl, by rw [← this]; exact hx, hS, hf, by omega⟩)
  · intro M2 b N2 hx
    exact mq_xd hx (fun z => md_198L z)
