/-! THE CALLS: what class and reference have in common between calls -/
def mq_J (M N : mm_M) : Prop := mq_T M N ∧ mq_U M N ∧ mq_V M N ∧ mq_RW N ∧ N.1 101 0 = 100 ∧ N.1 101 1 = 64
/-- how a call ends -/
def mq_C (c : Int32) (M2 : mm_M) (b : Int32) (N2 : mm_M) : Prop := c = N2.1 84 0 ∧ (c = 0 → M2.2.1 110 0 = b.toInt64) ∧ mq_J M2 N2
def mq_C1 (c : Int32) (M2 : mm_M) (_ : Unit) (N2 : mm_M) : Prop := c = N2.1 84 0 ∧ mq_J M2 N2
/-- the law's handling of a class call -/
noncomputable def mq_w (x : mm_O Int32) (X : Nat) : mm_O Int32 := mm_Bc x (fun r1 M2 => if mm_in (0 : Int32) 1 then some (.inl (0 : Int32), (mm_pl M2 110 (0 : Int32).toNatClampNeg r1.toInt64)) else none) X (fun M3 => some (.inl (1 : Int32), M3))
theorem mq_w_in {a : Int32} {M : mm_M} {X : Nat} : mq_w (some (.inl a, M)) X = some (.inl 0, mm_pl M 110 0 a.toInt64) := rfl
theorem mq_w_out {M : mm_M} {X : Nat} : mq_w (some (.inr X, M)) X = some (.inl 1, M) := by
  show (if X = X then _ else _) = _
  rw [if_pos rfl]
theorem mq_174_0 (N : mm_M) : mf_174 0 N = some (.inl 0, mm_pi N 84 0 1) := rfl
theorem mq_174_1 (N : mm_M) : mf_174 1 N = some (.inl 1, mm_pi N 84 0 0) := rfl
theorem mq_J_th {M N : mm_M} (h : mq_J M N) : mq_J (mm_th M) N := h
theorem mq_J_0 {M N : mm_M} {v : Int32} (h : mq_J M N) : mq_J M (mm_pi N 84 0 v) := h
theorem mq_J_110 {M N : mm_M} {i : Nat} {v : Int64} (h : mq_J M N) : mq_J (mm_pl M 110 i v) N := h
/-- a call that is refused -/
theorem mq_ref {M N : mm_M} {x y : mm_O Int32} {X : Nat} (h : mq_J M N) (hx : x = some (.inr X, mm_th M)) (hy : y = some (.inl 0, mm_pi N 84 0 1)) : mq_2 mq_F (mq_w x X) y mq_C := by
  rw [hx, hy, mq_w_out]
  exact mq_2_ret ⟨rfl, fun q => absurd q (by decide), mq_J_th (mq_J_0 h)⟩
/-- a call that is good -/
theorem mq_good {x y : mm_O Int32} {X : Nat} (h : mq_2 mq_F x y (fun a M2 b N2 => a = b ∧ N2.1 84 0 = 0 ∧ mq_J M2 N2)) : mq_2 mq_F (mq_w x X) y mq_C := by
  obtain ⟨b, N, e, q⟩ := h
  rcases q with ⟨a, M, e1, rfl, q2, q3⟩ | ⟨_, _, q⟩
  · rw [e, e1, mq_w_in]
    exact mq_2_ret ⟨q2.symm, fun _ => rfl, mq_J_110 q3⟩
  · exact q.elim
theorem mq_ok {M N : mm_M} {x y : mm_O Int32} {a : Int32} {X : Nat} {M2 N2 : mm_M} (hx : x = some (.inl a, M2)) (hy : y = some (.inl a, N2)) (h0 : N2.1 84 0 = 0) (h : mq_J M2 N2) : mq_2 mq_F (mq_w x X) y mq_C := by
  rw [hx, hy, mq_w_in]
  exact mq_2_ret ⟨h0.symm, fun _ => rfl, mq_J_110 h⟩
/-- told -/
theorem mq_told {M N : mm_M} {v : Int32} (h : mq_J M N) : mq_2 mq_F (mf_5 v M) (mf_181 v N) mq_C := by
  show mq_2 mq_F (mq_w (mf_18 v M) 2) _ _
  obtain ⟨v1, v2, v3, v4, v5, v6⟩ := h.2.2.1
  by_cases c : v < 0 ∨ 5 < v
  · have e1 : mf_181 v N = some (.inl 0, mm_pi N 84 0 1) := by
      unfold mf_181
      rcases c with c | c
      · rw [if_pos c]; rfl
      · rw [if_neg (by rw [Int32.lt_iff_toInt_lt] at c ⊢; simp only [Int32.reduceToInt] at c ⊢; omega), if_pos c]; rfl
    have ne : ∀ k : Int32, 0 ≤ k.toInt → k.toInt ≤ 5 → ¬ v = k := by
      intro k k0 k1 q
      subst q
      rw [Int32.lt_iff_toInt_lt, Int32.lt_iff_toInt_lt] at c
      simp only [Int32.reduceToInt] at c
      omega
    refine mq_ref h ?_ e1
    unfold mf_18
    rw [if_neg (ne 0 (by decide) (by decide)), if_neg (ne 1 (by decide) (by decide)), if_neg (ne 2 (by decide) (by decide)), if_neg (ne 3 (by decide) (by decide)), if_neg (ne 4 (by decide) (by decide)), if_neg (ne 5 (by decide) (by decide))]
  · have c1 : ¬ v < 0 := fun q => c (.inl q)
    have c2 : ¬ 5 < v := fun q => c (.inr q)
    have e1 : mf_181 v N = mf_181_j15 v 1 N := by unfold mf_181; rw [if_neg c1, if_neg c2]
    rw [e1]
    unfold mf_181_j15 mf_18
    rw [mq_174_1, mq_Bs, if_neg (show ¬ (1 : Int32) = 0 from by decide)]
    have j0 := mq_J_0 (v := 0) h
    by_cases q0 : v = 0
    · rw [if_pos q0, if_pos q0]; exact mq_ok (M := M) (N := N) (by rw [v1]; rfl) rfl rfl j0
    rw [if_neg q0, if_neg q0]
    by_cases q1 : v = 1
    · rw [if_pos q1, if_pos q1]; exact mq_ok (M := M) (N := N) (by rw [v2]; rfl) rfl rfl j0
    rw [if_neg q1, if_neg q1]
    by_cases q2 : v = 2
    · rw [if_pos q2, if_pos q2]; exact mq_ok (M := M) (N := N) (by rw [v3]; rfl) rfl rfl j0
    rw [if_neg q2, if_neg q2]
    by_cases q3 : v = 3
    · rw [if_pos q3, if_pos q3]; exact mq_ok (M := M) (N := N) (by rw [v4]; rfl) rfl rfl j0
    rw [if_neg q3, if_neg q3]
    by_cases q4 : v = 4
    · rw [if_pos q4, if_pos q4]; exact mq_ok (M := M) (N := N) (by rw [v5]; rfl) rfl rfl j0
    rw [if_neg q4, if_neg q4]
    have q5 : v = 5 := by
      rw [Int32.lt_iff_toInt_lt] at c1 c2
      simp only [Int32.reduceToInt] at c1 c2
      have t0 : v.toInt ≠ 0 := fun q => q0 (Int32.toInt_inj.mp q)
      have t1 : v.toInt ≠ 1 := fun q => q1 (Int32.toInt_inj.mp q)
      have t2 : v.toInt ≠ 2 := fun q => q2 (Int32.toInt_inj.mp q)
      have t3 : v.toInt ≠ 3 := fun q => q3 (Int32.toInt_inj.mp q)
      have t4 : v.toInt ≠ 4 := fun q => q4 (Int32.toInt_inj.mp q)
      exact Int32.toInt_inj.mp (by simp only [Int32.reduceToInt]; omega)
    rw [if_pos q5]; exact mq_ok (M := M) (N := N) (by rw [v6]; rfl) rfl rfl j0
/-- a byte of the output -/
theorem mq_out {M N : mm_M} {v : Int32} (h : mq_J M N) : mq_2 mq_F (mf_6 v M) (mf_180 v N) mq_C := by
  show mq_2 mq_F (mq_w (mf_19 v M) 2) _ _
  obtain ⟨u1, u2, u3, u4⟩ := h.2.1
  unfold mf_19 mf_180
  rw [← u1]
  by_cases c : v < 0
  · rw [if_pos c, if_pos c]; exact mq_ref h rfl rfl
  rw [if_neg c, if_neg c]
  by_cases d : v < M.1 3 1
  · rw [if_pos d, if_pos d]
    rw [Int32.lt_iff_toInt_lt] at c d
    simp only [Int32.reduceToInt] at c
    unfold mf_180_j18
    rw [mq_174_1, mq_Bs, if_neg (show ¬ (1 : Int32) = 0 from by decide), if_pos (mq_inr (by omega) (by omega)), if_pos (mq_inr (by omega) (by omega))]
    refine mq_ok (M := M) (N := N) (a := M.1 4 v.toNatClampNeg) rfl ?_ rfl (mq_J_0 (v := 0) h)
    rw [(u4 v.toNatClampNeg (by rw [mq_cl]; omega)).1]
    rfl
  · rw [if_neg d, if_neg d]; exact mq_ref h rfl rfl
/-- how many -/
theorem mq_count {M N : mm_M} {v : Int32} (h : mq_J M N) : mq_2 mq_F (mf_11 v M) (mf_179 v N) mq_C := by
  show mq_2 mq_F (mq_w (mf_25 v M) 2) _ _
  unfold mf_25 mf_179 mf_179_j15
  by_cases c : v = 0
  · rw [if_pos c, if_pos c, mq_174_1, mq_Bs, if_neg (show ¬ (1 : Int32) = 0 from by decide), if_pos c]
    exact mq_ok (M := M) (N := N) (by rw [h.1.1]; rfl) rfl rfl (mq_J_0 (v := 0) h)
  rw [if_neg c, if_neg c]
  by_cases d : v = 1
  · rw [if_pos d, if_pos d, mq_174_1, mq_Bs, if_neg (show ¬ (1 : Int32) = 0 from by decide), if_neg c]
    exact mq_ok (M := M) (N := N) (by rw [h.2.1.1]; rfl) rfl rfl (mq_J_0 (v := 0) h)
  · rw [if_neg d, if_neg d]
    exact mq_ref h rfl rfl
/-- sums -/
theorem mq_sum {M N : mm_M} {v : Int32} (h : mq_J M N) : mq_2 mq_F (mf_8 v M) (mf_189 v N) mq_C := by
  show mq_2 mq_F (mq_w (mf_21 v M) 1) _ _
  obtain ⟨t1, t2, t3, t4⟩ := h.1
  have he : ∀ j : Nat, (0 : Int32).toInt ≤ j → (j : Int) < (M.1 1 1).toInt → M.1 2 j = (mm_pi N 84 0 0).1 85 j := fun j _ hj => (t4 j hj).1
  have hs : (mm_pi N 84 0 0).1 84 2 = M.1 1 1 := t1.symm
  have j0 := mq_J_0 (v := 0) h
  by_cases c : v < 0 ∨ 3 < v
  · have e1 : mf_189 v N = some (.inl 0, mm_pi N 84 0 1) := by
      unfold mf_189
      rcases c with c | c
      · rw [if_pos c]; rfl
      · rw [if_neg (by rw [Int32.lt_iff_toInt_lt] at c ⊢; simp only [Int32.reduceToInt] at c ⊢; omega), if_pos c]; rfl
    have ne : ∀ k : Int32, 0 ≤ k.toInt → k.toInt ≤ 3 → ¬ v = k := by
      intro k k0 k1 q
      subst q
      rw [Int32.lt_iff_toInt_lt, Int32.lt_iff_toInt_lt] at c
      simp only [Int32.reduceToInt] at c
      omega
    refine mq_ref h ?_ e1
    unfold mf_21
    rw [if_neg (ne 0 (by decide) (by decide)), if_neg (ne 1 (by decide) (by decide)), if_neg (ne 2 (by decide) (by decide)), if_neg (ne 3 (by decide) (by decide))]
  · have c1 : ¬ v < 0 := fun q => c (.inl q)
    have c2 : ¬ 3 < v := fun q => c (.inr q)
    have e1 : mf_189 v N = mf_189_j15 v 1 N := by unfold mf_189; rw [if_neg c1, if_neg c2]
    rw [e1]
    unfold mf_189_j15 mf_21
    rw [mq_174_1, mq_Bs, if_neg (show ¬ (1 : Int32) = 0 from by decide), hs]
    by_cases q0 : v = 0
    · rw [if_pos q0, if_pos q0]
      obtain ⟨x, e2, e3⟩ := mq_crc_is (p := 2) (n := 10000) (q := 85) (m := 10000) (v1 := 0) (v2 := M.1 1 1) (M := M) (N := mm_pi N 84 0 0) (by decide) (by omega) (by omega) he
      rw [e2, e3]; exact mq_ok (M := M) (N := N) rfl rfl rfl j0
    rw [if_neg q0, if_neg q0]
    by_cases q1 : v = 1
    · rw [if_pos q1, if_pos q1]
      obtain ⟨x, e2, e3⟩ := mq_crh_is (p := 2) (n := 10000) (q := 85) (m := 10000) (v1 := 0) (v2 := M.1 1 1) (M := M) (N := mm_pi N 84 0 0) (by decide) (by omega) (by omega) he
      rw [e2, e3]; exact mq_ok (M := M) (N := N) rfl rfl rfl j0
    rw [if_neg q1, if_neg q1]
    by_cases q2 : v = 2
    · rw [if_pos q2, if_pos q2]
      obtain ⟨x, e2, e3⟩ := mq_adl_is (x := 0) (p := 2) (n := 10000) (q := 85) (m := 10000) (v1 := 0) (v2 := M.1 1 1) (M := M) (N := mm_pi N 84 0 0) (by decide) (by omega) (by omega) he
      rw [e2, e3]; exact mq_ok (M := M) (N := N) rfl rfl rfl j0
    rw [if_neg q2, if_neg q2]
    have q3 : v = 3 := by
      rw [Int32.lt_iff_toInt_lt] at c1 c2
      simp only [Int32.reduceToInt] at c1 c2
      have t0 : v.toInt ≠ 0 := fun q => q0 (Int32.toInt_inj.mp q)
      have t1 : v.toInt ≠ 1 := fun q => q1 (Int32.toInt_inj.mp q)
      have t2 : v.toInt ≠ 2 := fun q => q2 (Int32.toInt_inj.mp q)
      exact Int32.toInt_inj.mp (by simp only [Int32.reduceToInt]; omega)
    rw [if_pos q3]
    obtain ⟨x, e3⟩ := mq_xx_r (q := 85) (m := 10000) (v1 := 0) (v2 := M.1 1 1) (N := mm_pi N 84 0 0) (by decide) (by exact t2) (by omega) (by omega)
    have e2 := mq_xx_is (p := 2) (n := 10000) (M := M) (by decide) (by exact t2) (by omega) (by omega) (by omega) he e3
    rw [e2, e3]; exact mq_ok (M := M) (N := N) rfl rfl rfl j0
/-- the tape is cut -/
theorem mq_end {M N : mm_M} {v : Int32} (h : mq_J M N) : mq_2 mq_F (mf_1 v M) (mf_176 v N) mq_C1 := by
  obtain ⟨t1, t2, t3, t4⟩ := h.1
  unfold mf_1 mf_14 mf_176
  rw [← t1]
  by_cases c : v < 0
  · rw [if_pos c, if_pos c]
    exact mq_2_ret ⟨rfl, mq_J_th (mq_J_0 h)⟩
  rw [if_neg c, if_neg c]
  by_cases d : M.1 1 1 < v
  · rw [if_pos d, if_pos d]
    exact mq_2_ret ⟨rfl, mq_J_th (mq_J_0 h)⟩
  · rw [if_neg d, if_neg d]
    rw [Int32.lt_iff_toInt_lt] at c d
    simp only [Int32.reduceToInt] at c
    refine mq_2_ret (N := mm_pi (mm_pi N 84 0 0) 84 2 v) ⟨rfl, ⟨rfl, ?_, ?_, ?_⟩, h.2⟩
    · show 0 ≤ v.toInt
      omega
    · show v.toInt ≤ 10000
      omega
    · intro j hj
      have hj : (j : Int) < v.toInt := hj
      exact t4 j (by omega)
theorem mi_xor8 {x y : Int32} (h0 : 0 ≤ x.toInt) (h1 : x.toInt < 256) : 0 ≤ (x ^^^ (y &&& 255)).toInt ∧ (x ^^^ (y &&& 255)).toInt < 256 := by
  have a : (x.toBitVec.toNat : Int) = x.toInt := mi_nat h0
  have hb : (y &&& 255).toBitVec.toNat < 256 := by
    show (y.toBitVec &&& 255#32).toNat < 256
    rw [BitVec.toNat_and]
    exact Nat.lt_of_le_of_lt Nat.and_le_right (by decide)
  have hx : (x ^^^ (y &&& 255)).toBitVec.toNat < 2 ^ 8 := by
    show (x.toBitVec ^^^ (y &&& 255).toBitVec).toNat < 2 ^ 8
    rw [BitVec.toNat_xor]
    exact Nat.xor_lt_two_pow (by omega) hb
  have e : (x ^^^ (y &&& 255)).toInt = ((x ^^^ (y &&& 255)).toBitVec.toNat : Int) := by
    exact mi_ofn rfl (by omega)
  omega
/-- a byte is altered -/
theorem mq_alter {M N : mm_M} {v w : Int32} (h : mq_J M N) : mq_2 mq_F (mf_2 v w M) (mf_177 v w N) mq_C := by
  show mq_2 mq_F (mq_w (mf_15 v w M) 2) _ _
  obtain ⟨t1, t2, t3, t4⟩ := h.1
  unfold mf_15 mf_177
  rw [← t1]
  by_cases c : v < 0
  · rw [if_pos c, if_pos c]; exact mq_ref h rfl rfl
  rw [if_neg c, if_neg c]
  by_cases d : v < M.1 1 1
  · rw [if_pos d, if_pos d]
    rw [Int32.lt_iff_toInt_lt] at c d
    simp only [Int32.reduceToInt] at c
    unfold mf_177_j18
    have hin : mm_in v 10000 = true := mq_inr (by omega) (by omega)
    rw [mq_174_1, mq_Bs, if_neg (show ¬ (1 : Int32) = 0 from by decide), if_pos hin, if_pos hin, if_pos hin, if_pos hin]
    obtain ⟨q1, q2, q3⟩ := t4 v.toNatClampNeg (by rw [mq_cl]; omega)
    have q1' : (mm_pi N 84 0 0).1 85 v.toNatClampNeg = M.1 2 v.toNatClampNeg := q1.symm
    rw [q1']
    refine mq_ok (M := M) (N := N) rfl rfl rfl ⟨⟨t1, t2, t3, fun j hj => ?_⟩, h.2⟩
    by_cases e : j = v.toNatClampNeg
    · rw [e, mq_ps, mq_ps]
      exact ⟨rfl, mi_xor8 q2 q3⟩
    · rw [mq_pj e, mq_pj e]
      exact t4 j hj
  · rw [if_neg d, if_neg d]; exact mq_ref h rfl rfl
