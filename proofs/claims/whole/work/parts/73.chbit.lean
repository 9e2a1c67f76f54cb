/-! FORM 10: a bit, in step -/
theorem mj_shl8 (x : Int64) : x * 256 = mm_lshl x 8 := by
  apply Int64.toBitVec_inj.mp
  rw [mi_lshl (by decide) (by decide), Int64.toBitVec_mul]
  show x.toBitVec * 256#64 = x.toBitVec <<< 8
  rw [BitVec.shiftLeft_eq_mul_twoPow]
  rfl
theorem mq_n_full (x : Int64) : mq_n (x &&& 4294967295) = mq_n x % 4294967296 := by
  show (x.toBitVec &&& 4294967295#64).toNat = _
  rw [BitVec.toNat_and]
  show x.toBitVec.toNat &&& (2 ^ 32 - 1) = _
  rw [Nat.and_two_pow_sub_one_eq_mod]
  rfl
theorem mq_n_inj {x y : Int64} (h : mq_n x = mq_n y) : x = y := Int64.toBitVec_inj.mp (BitVec.eq_of_toNat_eq h)
theorem mq_n_add (x y : Int64) : mq_n (x + y) = (mq_n x + mq_n y) % 18446744073709551616 := by
  show (x.toBitVec + y.toBitVec).toNat = _
  rw [BitVec.toNat_add]
  rfl
theorem mj_grow {x : Int64} {r : Int32} (r0 : 0 ≤ r.toInt) (r1 : r.toInt < 256) : (x * 256 &&& 4294967295) + r.toInt64 = (mm_lshl x 8 ||| r.toInt64) &&& 4294967295 := by
  rw [mj_shl8]
  apply mq_n_inj
  have hs : mq_n (mm_lshl x 8) = (mq_n x % 2 ^ 56) * 256 := by
    show (mm_lshl x 8).toBitVec.toNat = _
    rw [mi_lshl (by decide) (by decide)]
    show (x.toBitVec <<< 8).toNat = _
    rw [BitVec.toNat_shiftLeft, Nat.shiftLeft_eq]
    unfold mq_n
    omega
  have hr : mq_n r.toInt64 = r.toInt.toNat := mq_n_i32 r0
  have ho : mq_n (mm_lshl x 8 ||| r.toInt64) = (mq_n x % 2 ^ 56) * 256 + r.toInt.toNat := by
    have h : mq_n (mm_lshl x 8 ||| r.toInt64) = mq_n (mm_lshl x 8) ||| mq_n r.toInt64 := by
      unfold mq_n; rw [Int64.toBitVec_or, BitVec.toNat_or]
    rw [h, hs, hr, Nat.mul_comm]
    exact (Nat.two_pow_add_eq_or_of_lt (i := 8) (by omega) _).symm
  rw [mq_n_add, mq_n_full, mq_n_full, hs, hr, ho]
  omega
/-- which chance of the reference a chance of the class is -/
def mq_mp (i : Nat) : Nat := if i < 216 then i else if i < 240 then i + 192 else if i < 432 then i - 24 else if i < 1716 then i else if i < 2036 then i + 128 else i + 192
theorem mq_mp_inj {i j : Nat} (h : mq_mp i = mq_mp j) : i = j := by
  unfold mq_mp at h
  repeat' split at h
  all_goals omega
theorem mq_mp_lt {i : Nat} (h : i < 14340) : mq_mp i < 14540 := by
  unfold mq_mp
  repeat' split
  all_goals omega
def mq_cx (M N : mm_M) : Prop := M.2.1 80 4 = N.2.1 84 33 ∧ M.2.1 80 5 = N.2.1 84 34 ∧ ∀ i, i < 14340 → M.1 81 i = N.1 98 (mq_mp i)
theorem mq_cgrow {M N : mm_M} {v : Int32} (hW : mq_W M N) (hc : mq_cx M N) : mq_2 mq_XE (mf_161_j90 v M) (mf_232 N) (fun a M2 _ N2 => a = v ∧ mq_W M2 N2 ∧ mq_cx M2 N2) := by
  unfold mf_161_j90 mf_232
  obtain ⟨c1, c2, c3⟩ := hc
  rw [c1, c2, mj_shl8]
  by_cases c : N.2.1 84 33 < 16777216
  · rw [if_pos c, if_pos c]
    have hW' : mq_W (mm_pl M 80 4 (mm_lshl (N.2.1 84 33) 8)) (mm_pl N 84 33 (mm_lshl (N.2.1 84 33) 8)) := hW
    refine mq_2_B (mq_2_K (mq_next1 hW') mk_44 mk_191) ?_ ?_
    · rintro r M2 b N2 ⟨⟨rfl, r0, r1, hW2, _⟩, k1, k2⟩
      refine mq_2_ret ⟨rfl, hW2, ?_, ?_, ?_⟩
      · show M2.2.1 80 4 = N2.2.1 84 33
        rw [(k1 80 4 rfl).2, (k2 84 33 rfl).2]
        rfl
      · show (N.2.1 84 34 * 256 &&& 4294967295) + r.toInt64 = (mm_lshl (N.2.1 84 34) 8 ||| r.toInt64) &&& 4294967295
        exact mj_grow r0 r1
      · intro i hi
        show M2.1 81 i = N2.1 98 _
        rw [(k1 81 i rfl).1, (k2 98 _ rfl).1]
        exact c3 i hi
    · rintro M2 b N2 ⟨hx, _, _⟩
      exact mq_1_ret hx
  · rw [if_neg c, if_neg c]
    exact mq_2_ret ⟨rfl, hW, c1, c2, c3⟩
theorem mq_cbit {M N : mm_M} {i j : Int32} (hW : mq_W M N) (hc : mq_cx M N) (i0 : 0 ≤ i.toInt) (i1 : i.toInt < 14340) (hj : j.toInt = mq_mp i.toInt.toNat) : mq_2 (fun M b N => (b = 0 ∨ b = 1) ∧ mq_X M N) (mf_161 i M) (mf_233 j N) (fun v M2 b N2 => v = b ∧ (v = 0 ∨ v = 1) ∧ mq_W M2 N2 ∧ mq_cx M2 N2) := by
  unfold mf_161 mf_233
  obtain ⟨c1, c2, c3⟩ := hc
  have hlt := mq_mp_lt (i := i.toInt.toNat) (by omega)
  have hin : mm_in i 14340 = true := mq_inr i0 (by omega)
  have hjn : mm_in j 14540 = true := mq_inr (by omega) (by omega)
  have ei : i.toNatClampNeg = i.toInt.toNat := mq_cl i
  have ej : j.toNatClampNeg = mq_mp i.toInt.toNat := by rw [mq_cl]; omega
  rw [if_pos hin, if_pos hin, if_pos hin, if_pos hW.1.2.2.2.2.1, if_pos hjn, ei, ej, c1, c2, c3 _ (by omega)]
  have fin : ∀ (v : Int32) (x y : Int32) (M2 N2 : mm_M), (v = 0 ∨ v = 1) → mq_W M2 N2 → M2.2.1 80 4 = N2.2.1 84 33 → M2.2.1 80 5 = N2.2.1 84 34 → M2.1 81 = M.1 81 → N2.1 98 = N.1 98 → x = y → mq_2 (fun M b N => (b = 0 ∨ b = 1) ∧ mq_X M N) (mf_161_j90 v (mm_pi M2 81 i.toInt.toNat x)) (mf_233_j115 v (mm_pi N2 98 (mq_mp i.toInt.toNat) y)) (fun v M2 b N2 => v = b ∧ (v = 0 ∨ v = 1) ∧ mq_W M2 N2 ∧ mq_cx M2 N2) := by
    intro v x y M2 N2 hv w2 e1 e2 e3 e4 hxy
    subst hxy
    unfold mf_233_j115
    have w3 : mq_W (mm_pi M2 81 i.toInt.toNat x) (mm_pi N2 98 (mq_mp i.toInt.toNat) x) := w2
    have cx : mq_cx (mm_pi M2 81 i.toInt.toNat x) (mm_pi N2 98 (mq_mp i.toInt.toNat) x) := by
      refine ⟨e1, e2, fun k hk => ?_⟩
      by_cases q : k = i.toInt.toNat
      · rw [q, mq_ps, mq_ps]
      · rw [mq_pj q, mq_pj (fun q2 => q (mq_mp_inj q2)), e3, e4]
        exact c3 k hk
    refine mq_2_Br' (mq_cgrow (v := v) w3 cx) ?_ ?_
    · rintro a M3 _ N3 ⟨rfl, q1, q2⟩
      exact ⟨_, rfl, rfl, hv, q1, q2⟩
    · intro M3 b N3 hx
      exact ⟨_, N3, rfl, hv, hx⟩
  unfold mf_233_j40
  by_cases c : N.2.1 84 34 < N.2.1 84 33 / 2048 * (N.1 98 (mq_mp i.toInt.toNat)).toInt64
  · rw [if_pos c, if_pos c, if_pos rfl, if_pos hjn, if_pos hjn, if_pos hjn, ej]
    exact fin 0 _ _ (mm_pl M 80 4 _) (mm_pl N 84 33 _) (.inl rfl) hW rfl c2 rfl rfl rfl
  · rw [if_neg c, if_neg c, if_neg (show ¬ (1 : Int32) = 0 from by decide), if_pos hjn, if_pos hjn, if_pos hjn, ej]
    exact fin 1 _ _ (mm_pl (mm_pl M 80 5 _) 80 4 _) (mm_pl (mm_pl N 84 34 _) 84 33 _) (.inr rfl) hW rfl rfl rfl rfl rfl
