/-! LOW NUMBERS, BYTES PUT, COPIES, IN STEP -/
theorem md_193L {N0 N : mm_M} {v : Int32} {s : Int64 × Int32} (h : mq_Z N0) (g : mq_ob N0 N) : mq_D N0 (mf_193_L5 v s N) := by
  unfold mf_193_L5
  refine mq_d_Lc (I := fun _ => True) (m := fun s => (v.toInt - s.2.toInt).toNat) ?_ trivial g
  rintro ⟨x, k⟩ N _ g
  unfold mf_193_b5
  dsimp only
  refine mq_1_ite (fun c => ?_) (fun c => ?_)
  · refine mq_1_B (mq_d_c h g md_191) (fun a N2 g => mq_1_ret ⟨.inl ⟨_, rfl, trivial, ?_⟩, g⟩)
    have := mq_hi v
    rw [Int32.lt_iff_toInt_lt] at c
    dsimp only
    rw [mi_add]; simp only [Int32.reduceToInt]; have := mq_lo k; omega
  · exact mq_1_ret ⟨.inr ⟨_, rfl⟩, g⟩
theorem mq_low {M N : mm_M} {n : Int32} (h : mq_S M N) (hb : N.1 84 15 = 0) (h0 : 0 ≤ n.toInt) (h1 : n.toInt ≤ 8) : mq_2 (fun M _ N => mq_X M N) (mf_47 n M) (mf_193 n N) (fun v M2 b N2 => v = b ∧ (n.toInt ≤ 7 → mq_n v < 2 ^ (8 * n.toInt.toNat)) ∧ mq_S M2 N2 ∧ N2.1 84 15 = 0 ∧ (M2.1 1 2).toInt = (M.1 1 2).toInt + n.toInt) := by
  unfold mf_47 mf_193
  refine mq_2_B (E := fun M _ N => mq_X M N) (P := fun v M2 b N2 => v = b ∧ (n.toInt ≤ 7 → mq_n v < 2 ^ (8 * n.toInt.toNat)) ∧ mq_S M2 N2 ∧ N2.1 84 15 = 0 ∧ (M2.1 1 2).toInt = (M.1 1 2).toInt + n.toInt) ?_ (fun v M2 b N2 q => mq_2_ret q) (fun M2 b N2 q => mq_1_ret q)
  unfold mf_47_L5 mf_193_L5
  refine mq_2_L (I := fun a M2 b N2 => a = b ∧ 0 ≤ a.2.toInt ∧ a.2.toInt ≤ n.toInt ∧ (a.2.toInt ≤ 7 → mq_n a.1 < 2 ^ (8 * a.2.toInt.toNat)) ∧ mq_S M2 N2 ∧ N2.1 84 15 = 0 ∧ (M2.1 1 2).toInt = (M.1 1 2).toInt + a.2.toInt) (J := fun M _ N => mq_X M N) (m := fun a _ => (n.toInt - a.2.toInt).toNat) ?_ ?_ ⟨rfl, by decide, h0, by decide, h, hb, by simp only [Int32.reduceToInt]; omega⟩
  · rintro ⟨x, k⟩ M2 b N2 ⟨rfl, k0, k1, hx, hS, hb, hr⟩
    dsimp only at k0 k1 hx hr
    unfold mf_47_b5 mf_193_b5
    dsimp only
    by_cases c : k < n
    · rw [if_pos c, if_pos c]
      rw [Int32.lt_iff_toInt_lt] at c
      have ek : (k + 1).toInt = k.toInt + 1 := by rw [mi_add]; simp only [Int32.reduceToInt]; omega
      refine mq_2_B (mq_next hS hb) ?_ ?_
      · rintro v M3 b N3 ⟨rfl, v0, v1, hS3, hb3, hr3⟩
        refine mq_2_ret (.inl ⟨_, _, rfl, rfl, ⟨rfl, ?_, ?_, ?_, hS3, hb3, ?_⟩, ?_⟩)
        · dsimp only; omega
        · dsimp only; omega
        · dsimp only
          intro k7
          have e8 : ((8 : Int32) * k).toInt = 8 * k.toInt := by rw [mi_mul]; simp only [Int32.reduceToInt]; omega
          have e8n : ((8 : Int32) * k).toInt.toNat = 8 * k.toInt.toNat := by omega
          have hp : 2 ^ (8 * k.toInt.toNat) ≤ 2 ^ 48 := Nat.pow_le_pow_right (by decide) (by omega)
          have hn : mq_n v.toInt64 ≤ 255 := by rw [mq_n_i32 v0]; omega
          have hm : mq_n v.toInt64 * 2 ^ (8 * k.toInt.toNat) ≤ 255 * 2 ^ (8 * k.toInt.toNat) := Nat.mul_le_mul_right _ hn
          have hm2 : 2 ^ (8 * k.toInt.toNat) * mq_n v.toInt64 ≤ 2 ^ (8 * k.toInt.toNat) * 255 := Nat.mul_le_mul_left _ hn
          have hs := mq_n_shl (x := v.toInt64) (k := 8 * k) (by omega) (by omega) (by rw [e8n]; omega)
          rw [e8n] at hs
          rw [mq_n_or (hx (by omega)) hs]
          have e9 : 8 * (k + 1).toInt.toNat = 8 * k.toInt.toNat + 8 := by omega
          have hxx := hx (by omega)
          rw [e9, Nat.pow_add]
          omega
        · dsimp only; omega
        · dsimp only; omega
      · intro M3 b N3 hx
        exact mq_1_ret (.inl ⟨_, rfl, hx⟩)
    · rw [if_neg c, if_neg c]
      rw [Int32.lt_iff_toInt_lt] at c
      have : k.toInt = n.toInt := by omega
      exact mq_2_ret (.inr ⟨_, _, rfl, rfl, rfl, by rw [← this]; exact hx, hS, hb, by omega⟩)
  · intro M2 b N2 hx
    exact mq_xd hx (fun z => md_193L z mq_ob_refl)
/-- a byte is put, or the output is full -/
theorem mq_put' {M N : mm_M} {v : Int32} (h : mq_S M N) (v0 : 0 ≤ v.toInt) (v1 : v.toInt < 256) : (mf_51 v M = some (.inl (), mm_pi (mm_pi M 4 (M.1 3 1).toNatClampNeg v) 3 1 (M.1 3 1 + 1)) ∧ mf_194 v N = some (.inl 1, mm_pi (mm_pi N 86 (N.1 84 4).toNatClampNeg v) 84 4 (N.1 84 4 + 1)) ∧ mq_S (mm_pi (mm_pi M 4 (M.1 3 1).toNatClampNeg v) 3 1 (M.1 3 1 + 1)) (mm_pi (mm_pi N 86 (N.1 84 4).toNatClampNeg v) 84 4 (N.1 84 4 + 1)) ∧ (M.1 3 1).toInt < 16384 ∧ (M.1 3 1 + 1).toInt = (M.1 3 1).toInt + 1) ∨ (mf_51 v M = some (.inr 0, mm_th M) ∧ mf_194 v N = some (.inl 0, mm_pi N 84 7 1) ∧ mq_X (mm_th M) (mm_pi N 84 7 1)) := by
  obtain ⟨hT, hU, hV, hG, hH⟩ := h
  have hU0 := hU
  obtain ⟨u1, u2, u3, u4⟩ := hU
  unfold mf_51 mf_194
  by_cases c : (M.1 3 1).toInt < 16384
  · left
    have e : (M.1 3 1 + 1).toInt = (M.1 3 1).toInt + 1 := by rw [mi_add]; simp only [Int32.reduceToInt]; omega
    have ne : ¬ N.1 84 4 = 16384 := by
      intro q; rw [← u1] at q; rw [q] at c; exact absurd c (by decide)
    unfold mf_194_j21
    rw [if_pos (show M.1 3 1 < 16384 from by rw [Int32.lt_iff_toInt_lt]; exact c), if_pos (mq_inr u2 c), if_pos hH.1, if_neg ne, if_pos hH.1, if_pos (by rw [← u1]; exact mq_inr u2 c)]
    refine ⟨rfl, rfl, ⟨hT, ⟨?_, ?_, ?_, ?_⟩, hV, hG, hH⟩, c, e⟩
    · show M.1 3 1 + 1 = N.1 84 4 + 1
      rw [u1]
    · show 0 ≤ (M.1 3 1 + 1).toInt
      omega
    · show (M.1 3 1 + 1).toInt ≤ 16384
      omega
    · intro j hj
      have hj : (j : Int) < (M.1 3 1 + 1).toInt := hj
      show (if j = (M.1 3 1).toNatClampNeg then v else M.1 4 j) = (if j = (N.1 84 4).toNatClampNeg then v else N.1 86 j) ∧ 0 ≤ (if j = (M.1 3 1).toNatClampNeg then v else M.1 4 j).toInt ∧ (if j = (M.1 3 1).toNatClampNeg then v else M.1 4 j).toInt < 256
      rw [← u1]
      by_cases d : j = (M.1 3 1).toNatClampNeg
      · rw [if_pos d, if_pos d]; exact ⟨rfl, v0, v1⟩
      · rw [if_neg d, if_neg d]
        refine u4 j ?_
        rw [mq_cl] at d
        omega
  · right
    have q : M.1 3 1 = 16384 := Int32.toInt_inj.mp (by simp only [Int32.reduceToInt]; omega)
    rw [if_neg (show ¬ M.1 3 1 < 16384 from by rw [Int32.lt_iff_toInt_lt]; exact c), if_pos hH.1, if_pos (by rw [← u1]; exact q)]
    refine ⟨rfl, ?_, hT, hU0, hV, rfl, hH.2.1, ?_⟩
    · rfl
    · show (M.1 1 2).toInt ≤ (M.1 1 1).toInt
      have := hH.2.2
      omega
theorem mq_put {M N : mm_M} {v : Int32} (h : mq_S M N) (v0 : 0 ≤ v.toInt) (v1 : v.toInt < 256) : mq_2 (fun M b N => b = 0 ∧ mq_X M N) (mf_51 v M) (mf_194 v N) (fun _ M2 b N2 => b = 1 ∧ mq_S M2 N2 ∧ (M2.1 3 1).toInt = (M.1 3 1).toInt + 1 ∧ (M.1 3 1).toInt < 16384 ∧ mq_rem M2 = mq_rem M) := by
  rcases mq_put' h v0 v1 with ⟨a, b, c, d, e⟩ | ⟨a, b, c⟩
  · rw [a, b]; exact mq_2_ret ⟨rfl, c, e, d, rfl⟩
  · rw [a, b]; exact mq_2_thr ⟨rfl, c⟩
/-- put, and told as plain -/
theorem mq_putp {M N : mm_M} {v : Int32} (h : mq_S M N) (v0 : 0 ≤ v.toInt) (v1 : v.toInt < 256) : mq_2 (fun M b N => b = 0 ∧ mq_X M N) (mf_52 v M) (mf_194 v N) (fun _ M2 b N2 => b = 1 ∧ mq_S M2 (mm_pi N2 84 8 (N2.1 84 8 + 1)) ∧ N2.1 84 8 = N.1 84 8 ∧ (M2.1 3 1).toInt = (M.1 3 1).toInt + 1 ∧ (M.1 3 1).toInt < 16384 ∧ mq_rem M2 = mq_rem M) := by
  unfold mf_52
  rcases mq_put' h v0 v1 with ⟨a, b, c, d, e⟩ | ⟨a, b, c⟩
  · rw [a, b]
    refine mq_2_ret ⟨rfl, ⟨c.1, c.2.1, ⟨c.2.2.1.1, ?_, c.2.2.1.2.2⟩, c.2.2.2⟩, rfl, e, d, rfl⟩
    show M.1 3 2 + 1 = N.1 84 8 + 1
    rw [h.2.2.1.2.1]
  · rw [a, b]; exact mq_2_thr ⟨rfl, c⟩
