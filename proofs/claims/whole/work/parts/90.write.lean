/-! WRITING: bytes and bits -/
theorem mi_sm6 : ∀ j : Fin 64, (BitVec.ofNat 64 j.val).smod 64 = BitVec.ofNat 64 j.val ∧ (BitVec.ofNat 64 j.val).umod 64 = BitVec.ofNat 64 j.val := by decide
theorem mi_m6 (y : BitVec 64) : ∃ j : Fin 64, y &&& 63 = BitVec.ofNat 64 j.val := by
  have h : (y &&& 63).toNat < 64 := by
    rw [BitVec.toNat_and]
    exact Nat.lt_of_le_of_lt Nat.and_le_right (by decide)
  exact ⟨⟨_, h⟩, by simp⟩
theorem mi_bitL (v : Int64) (s : Int32) : ((mm_lush v s) &&& 1).toInt32 = (mm_lshr v s).toInt32 &&& 1 := by
  obtain ⟨j, hj⟩ := mi_m6 s.toInt64.toBitVec
  have h1 : (mm_lush v s).toBitVec = v.toBitVec >>> j.val := by
    show v.toBitVec >>> ((s.toInt64.toBitVec &&& 63).umod 64) = _
    rw [hj, (mi_sm6 j).2]
    show v.toBitVec >>> (BitVec.ofNat 64 j.val).toNat = _
    rw [BitVec.toNat_ofNat, Nat.mod_eq_of_lt (by omega)]
  have h2 : (mm_lshr v s).toBitVec = v.toBitVec.sshiftRight j.val := by
    show v.toBitVec.sshiftRight ((s.toInt64.toBitVec &&& 63).smod 64).toNat = _
    rw [hj, (mi_sm6 j).1, BitVec.toNat_ofNat, Nat.mod_eq_of_lt (by omega)]
  apply Int32.toBitVec_inj.mp
  show ((mm_lush v s).toBitVec &&& 1).signExtend 32 = ((mm_lshr v s).toBitVec.signExtend 32) &&& 1
  rw [h1, h2]
  apply BitVec.eq_of_getLsbD_eq
  intro i hi
  have hj := j.isLt
  by_cases i0 : i = 0
  · subst i0
    rw [BitVec.getLsbD_signExtend, BitVec.getLsbD_and, BitVec.getLsbD_and, BitVec.getLsbD_signExtend, BitVec.getLsbD_sshiftRight, BitVec.getLsbD_ushiftRight]
    simp [hj]
  · have : (1#64).getLsbD i = false := by simp [BitVec.getLsbD_one, i0]
    have : (1#32).getLsbD i = false := by simp [BitVec.getLsbD_one, i0]
    simp [i0, hi]
theorem mi_bitI {c s : Int32} (h0 : 0 ≤ s.toInt) (h1 : s.toInt < 32) : mm_shr c s &&& 1 = (mm_lshr c.toInt64 s).toInt32 &&& 1 := by
  have k : s.toInt64.toBitVec &&& 63 = BitVec.ofNat 64 s.toInt.toNat := by
    apply BitVec.eq_of_toNat_eq
    rw [BitVec.toNat_and, BitVec.toNat_ofNat]
    have : s.toInt64.toBitVec.toNat = s.toInt.toNat := mq_n_i32 h0
    rw [this]
    show s.toInt.toNat &&& (2 ^ 6 - 1) = _
    rw [Nat.and_two_pow_sub_one_eq_mod]
    omega
  have h2 : (mm_lshr c.toInt64 s).toBitVec = c.toInt64.toBitVec.sshiftRight s.toInt.toNat := by
    show c.toInt64.toBitVec.sshiftRight ((s.toInt64.toBitVec &&& 63).smod 64).toNat = _
    rw [k, (mi_sm6 ⟨s.toInt.toNat, by omega⟩).1, BitVec.toNat_ofNat, Nat.mod_eq_of_lt (by omega)]
  have h3 : (mm_shr c s).toBitVec = c.toBitVec.sshiftRight s.toInt.toNat := by
    have e : s = Int32.ofNat s.toInt.toNat := (Int32.ofNat_toNatClampNeg s (Int32.le_iff_toInt_le.mpr h0)).symm
    have hs : ∀ j : Fin 32, ((Int32.ofNat j.val) &&& 31).toBitVec.smod 32 = BitVec.ofNat 32 j.val := by decide
    have h := hs ⟨s.toInt.toNat, by omega⟩
    dsimp only at h
    rw [← e] at h
    unfold mm_shr
    rw [Int32.toBitVec_shiftRight, h]
    show c.toBitVec.sshiftRight (BitVec.ofNat 32 s.toInt.toNat).toNat = _
    rw [BitVec.toNat_ofNat, Nat.mod_eq_of_lt (by omega)]
  apply Int32.toBitVec_inj.mp
  show (mm_shr c s).toBitVec &&& 1 = ((mm_lshr c.toInt64 s).toBitVec.signExtend 32) &&& 1
  rw [h2, h3]
  apply BitVec.eq_of_getLsbD_eq
  intro i hi
  by_cases i0 : i = 0
  · subst i0
    show _ = (((c.toBitVec.signExtend 64).sshiftRight s.toInt.toNat).signExtend 32 &&& 1).getLsbD 0
    rw [BitVec.getLsbD_and, BitVec.getLsbD_and, BitVec.getLsbD_signExtend, BitVec.getLsbD_sshiftRight, BitVec.getLsbD_sshiftRight, BitVec.getLsbD_signExtend]
    have g1 : s.toInt.toNat < 32 := by omega
    have g2 : s.toInt.toNat < 64 := by omega
    rw [Nat.add_zero]
    simp only [g1, g2, decide_true, if_true, Bool.true_and]
    simp
  · have : (1#32).getLsbD i = false := by simp [BitVec.getLsbD_one, i0]
    simp [i0]
/-- what class and reference wrote: the bytes -/
def mq_PB (M N : mm_M) : Prop := mq_T M N ∧ 0 ≤ (N.1 84 41).toInt ∧ ((N.1 84 41).toInt ≤ 16384 ∧ M.1 5 1 = N.1 84 41 ∧ M.1 5 2 = 0 ∨ 16384 < (N.1 84 41).toInt ∧ M.1 5 1 = 16384 ∧ M.1 5 2 = 1) ∧ (∀ j : Nat, (j : Int) < (M.1 5 1).toInt → M.1 6 j = N.1 100 j ∧ 0 ≤ (M.1 6 j).toInt ∧ (M.1 6 j).toInt < 256)
/-- the bits held -/
def mq_PH (M N : mm_M) : Prop := M.1 5 4 = N.1 84 42 ∧ 0 ≤ (M.1 5 4).toInt ∧ (M.1 5 4).toInt < 256 ∧ M.1 5 5 = N.1 84 43 ∧ 0 ≤ (M.1 5 5).toInt ∧ (M.1 5 5).toInt < 8
def mq_P (M N : mm_M) : Prop := mq_PB M N ∧ mq_PH M N
/-- bits written -/
def mq_z (N : mm_M) : Int := 8 * (N.1 84 41).toInt + (N.1 84 43).toInt
def mq_wM : List (Nat × Option Nat) := [(5, some 1), (5, some 2), (5, some 4), (5, some 5), (6, none)]
def mq_wN : List (Nat × Option Nat) := [(84, some 41), (84, some 42), (84, some 43), (100, none)]
def mq_po {α β : Type} (c : Int) (M N : mm_M) : α → mm_M → β → mm_M → Prop := fun _ M2 _ N2 => mq_P M2 N2 ∧ mq_z N2 ≤ mq_z N + c ∧ mq_kp mq_wM M M2 ∧ mq_kp mq_wN N N2
theorem mq_put_w {M N : mm_M} {v w : Int32} (h : mq_PB M N) (hz : (N.1 84 41).toInt ≤ 1000000000) (e : w &&& 255 = v) : ∃ M2 N2, mf_57 w M = some (.inl (), M2) ∧ mf_245 v N = some (.inl (), N2) ∧ mq_PB M2 N2 ∧ (N2.1 84 41).toInt = (N.1 84 41).toInt + 1 ∧ mq_kp mw_57 M M2 ∧ mq_kp mw_245 N N2 := by
  obtain ⟨hT, m0, hs, hv⟩ := h
  have e1 : (N.1 84 41 + 1).toInt = (N.1 84 41).toInt + 1 := by rw [mi_add]; simp only [Int32.reduceToInt]; omega
  have b := mi_b255 w
  rw [e] at b
  by_cases c : (N.1 84 41).toInt < 16384
  · have hs1 : M.1 5 1 = N.1 84 41 := by
      rcases hs with ⟨_, q, _⟩ | ⟨q, _⟩
      · exact q
      · omega
    have hs2 : M.1 5 2 = 0 := by
      rcases hs with ⟨_, _, q⟩ | ⟨q, _⟩
      · exact q
      · omega
    have x1 : mf_57 w M = some (.inl (), mm_pi (mm_pi M 6 (N.1 84 41).toNatClampNeg v) 5 1 (N.1 84 41 + 1)) := by
      unfold mf_57
      rw [hs1, if_pos (by rw [Int32.lt_iff_toInt_lt]; exact c), if_pos (mq_inr m0 (by omega)), e]
    have y1 : mf_245 v N = some (.inl (), mm_pi (mm_pi N 100 (N.1 84 41).toNatClampNeg v) 84 41 (N.1 84 41 + 1)) := by
      unfold mf_245
      rw [if_pos (by rw [Int32.lt_iff_toInt_lt]; exact c), if_pos (mq_inr m0 (by omega))]
    refine ⟨_, _, x1, y1, ⟨hT, ?_, .inl ⟨?_, rfl, hs2⟩, ?_⟩, e1, mk_57 _ x1, mk_245 _ y1⟩
    · show 0 ≤ (N.1 84 41 + 1).toInt
      omega
    · show (N.1 84 41 + 1).toInt ≤ 16384
      omega
    · intro j hj
      have hj : (j : Int) < (N.1 84 41 + 1).toInt := hj
      show (mm_pi M 6 (N.1 84 41).toNatClampNeg v).1 6 j = (mm_pi N 100 (N.1 84 41).toNatClampNeg v).1 100 j ∧ 0 ≤ ((mm_pi M 6 (N.1 84 41).toNatClampNeg v).1 6 j).toInt ∧ ((mm_pi M 6 (N.1 84 41).toNatClampNeg v).1 6 j).toInt < 256
      by_cases q : j = (N.1 84 41).toNatClampNeg
      · rw [q, mq_ps, mq_ps]; exact ⟨rfl, b⟩
      · rw [mq_pj q, mq_pj q]
        exact hv j (by rw [mq_cl] at q; rw [hs1]; omega)
  · have hs1 : M.1 5 1 = 16384 := by
      rcases hs with ⟨q1, q, _⟩ | ⟨_, q, _⟩
      · rw [q]
        exact Int32.toInt_inj.mp (by simp only [Int32.reduceToInt]; omega)
      · exact q
    have x1 : mf_57 w M = some (.inl (), mm_pi M 5 2 1) := by
      unfold mf_57
      rw [hs1, if_neg (by decide)]
    have y1 : mf_245 v N = some (.inl (), mm_pi N 84 41 (N.1 84 41 + 1)) := by
      unfold mf_245
      rw [if_neg (by rw [Int32.lt_iff_toInt_lt]; exact c)]
    refine ⟨_, _, x1, y1, ⟨hT, ?_, .inr ⟨?_, hs1, rfl⟩, hv⟩, e1, mk_57 _ x1, mk_245 _ y1⟩
    · show 0 ≤ (N.1 84 41 + 1).toInt
      omega
    · show 16384 < (N.1 84 41 + 1).toInt
      omega
theorem mq_pb {M N : mm_M} {v w : Int32} (h : mq_P M N) (hz : mq_z N ≤ 1000000000) (e : w &&& 255 = v) : mq_2 mq_F (mf_57 w M) (mf_245 v N) (fun a M2 b N2 => mq_po 8 M N a M2 b N2 ∧ (N2.1 84 41).toInt = (N.1 84 41).toInt + 1) := by
  have m0 := h.1.2.1
  have h0 := h.2.2.2.2.2.1
  rw [h.2.2.2.2.1] at h0
  unfold mq_z at hz
  obtain ⟨M2, N2, e1, e2, p, q, k1, k2⟩ := mq_put_w h.1 (by omega) e
  rw [e1, e2]
  have f1 : M2.1 5 4 = M.1 5 4 := (k1 5 4 rfl).1
  have f2 : M2.1 5 5 = M.1 5 5 := (k1 5 5 rfl).1
  have f3 : N2.1 84 42 = N.1 84 42 := (k2 84 42 rfl).1
  have f4 : N2.1 84 43 = N.1 84 43 := (k2 84 43 rfl).1
  refine mq_2_ret ⟨⟨⟨p, ?_⟩, ?_, mq_kp_sub k1 rfl, mq_kp_sub k2 rfl⟩, q⟩
  · unfold mq_PH
    rw [f1, f2, f3, f4]
    exact h.2
  · unfold mq_z
    rw [f4, q]
    omega
theorem mi_or8 {x y : Int32} (hx0 : 0 ≤ x.toInt) (hx : x.toInt < 256) (hy0 : 0 ≤ y.toInt) (hy : y.toInt < 256) : 0 ≤ (x ||| y).toInt ∧ (x ||| y).toInt < 256 := by
  have a : (x.toBitVec.toNat : Int) = x.toInt := mi_nat hx0
  have b : (y.toBitVec.toNat : Int) = y.toInt := mi_nat hy0
  have hxx : (x ||| y).toBitVec.toNat < 2 ^ 8 := by
    show (x.toBitVec ||| y.toBitVec).toNat < 2 ^ 8
    rw [BitVec.toNat_or]
    exact Nat.or_lt_two_pow (by omega) (by omega)
  have e : (x ||| y).toInt = ((x ||| y).toBitVec.toNat : Int) := mi_ofn rfl (by omega)
  omega
theorem mi_shl8 : ∀ j : Fin 8, (mm_shl 0 (Int32.ofNat j.val) = 0) ∧ 0 ≤ (mm_shl 1 (Int32.ofNat j.val)).toInt ∧ (mm_shl 1 (Int32.ofNat j.val)).toInt < 256 := by decide
theorem mi_shl8' {b k : Int32} (hb : b = 0 ∨ b = 1) (k0 : 0 ≤ k.toInt) (k1 : k.toInt < 8) : 0 ≤ (mm_shl b k).toInt ∧ (mm_shl b k).toInt < 256 := by
  have e : k = Int32.ofNat k.toInt.toNat := (Int32.ofNat_toNatClampNeg k (Int32.le_iff_toInt_le.mpr k0)).symm
  have h := mi_shl8 ⟨k.toInt.toNat, by omega⟩
  dsimp only at h
  rw [← e] at h
  rcases hb with rfl | rfl
  · rw [h.1]; decide
  · exact h.2
theorem mi_and255 {x : Int32} (h0 : 0 ≤ x.toInt) (h1 : x.toInt < 256) : x &&& 255 = x := by
  have e : (x &&& 255).toInt = x.toInt % 256 := mi_and x 8 (by decide)
  exact Int32.toInt_inj.mp (by omega)
theorem mq_wbitj {M N : mm_M} {s1 s2 : Int32} (h : mq_P M N) (hz : mq_z N ≤ 1000000000) (h1 : 0 ≤ (s1 ||| s2).toInt) (h2 : (s1 ||| s2).toInt < 256) : mq_2 mq_F (mf_61_j30 s1 s2 M) (mf_247_j30 s1 s2 N) (fun a M2 b N2 => mq_po 1 M N a M2 b N2 ∧ mq_z N2 = mq_z N + 1) := by
  obtain ⟨hB, g1, g2, g3, g4, g5, g6⟩ := h
  have m0 := hB.2.1
  have e1 : (M.1 5 5 + 1).toInt = (M.1 5 5).toInt + 1 := by rw [mi_add]; simp only [Int32.reduceToInt]; omega
  unfold mf_61_j30 mf_247_j30
  rw [← g4]
  have z0 : mq_z N = 8 * (N.1 84 41).toInt + (M.1 5 5).toInt := by rw [g4]; rfl
  by_cases c : M.1 5 5 + 1 = 8
  · rw [if_pos c, if_pos c, c]
    unfold mf_248
    have c1 : (mm_pi (mm_pi N 84 42 (s1 ||| s2)) 84 43 8).1 84 43 = 8 := rfl
    have c2 : (mm_pi (mm_pi N 84 42 (s1 ||| s2)) 84 43 8).1 84 42 = s1 ||| s2 := rfl
    rw [c1, c2, if_pos (by decide)]
    have c3 : (M.1 5 5).toInt = 7 := by
      rw [c] at e1
      simp only [Int32.reduceToInt] at e1
      omega
    obtain ⟨M2, N2, x1, y1, p, q, k1, k2⟩ := mq_put_w (M := mm_pi (mm_pi M 5 4 (s1 ||| s2)) 5 5 8) (N := mm_pi (mm_pi N 84 42 (s1 ||| s2)) 84 43 8) hB (by show (N.1 84 41).toInt ≤ _; omega) (mi_and255 h1 h2)
    rw [x1, y1]
    have q : (N2.1 84 41).toInt = (N.1 84 41).toInt + 1 := q
    have zz : mq_z (mm_pi (mm_pi N2 84 42 0) 84 43 0) = mq_z N + 1 := by
      show 8 * (N2.1 84 41).toInt + (0 : Int32).toInt = _
      simp only [Int32.reduceToInt]
      omega
    refine mq_2_ret (N := mm_pi (mm_pi N2 84 42 0) 84 43 0) ⟨⟨⟨p, rfl, (by show 0 ≤ (0 : Int32).toInt; decide), (by show (0 : Int32).toInt < 256; decide), rfl, (by show 0 ≤ (0 : Int32).toInt; decide), (by show (0 : Int32).toInt < 8; decide)⟩, by omega, ?_, ?_⟩, zz⟩
    · exact mq_kp_pi (mq_kp_pi (mq_kp_trans (mq_kp_pi (mq_kp_pi mq_kp_refl rfl) rfl) (mq_kp_sub k1 rfl)) rfl) rfl
    · exact mq_kp_pi (mq_kp_pi (mq_kp_trans (mq_kp_pi (mq_kp_pi mq_kp_refl rfl) rfl) (mq_kp_sub k2 rfl)) rfl) rfl
  · rw [if_neg c, if_neg c]
    have c3 : (M.1 5 5).toInt ≠ 7 := fun q => c (Int32.toInt_inj.mp (by rw [e1, q]; rfl))
    have zz : mq_z (mm_pi (mm_pi N 84 42 (s1 ||| s2)) 84 43 (M.1 5 5 + 1)) = mq_z N + 1 := by
      show 8 * (N.1 84 41).toInt + (M.1 5 5 + 1).toInt = _
      omega
    refine mq_2_ret ⟨⟨⟨hB, rfl, h1, h2, rfl, ?_, ?_⟩, by omega, mq_kp_pi (mq_kp_pi mq_kp_refl rfl) rfl, mq_kp_pi (mq_kp_pi mq_kp_refl rfl) rfl⟩, zz⟩
    · show 0 ≤ (M.1 5 5 + 1).toInt
      omega
    · show (M.1 5 5 + 1).toInt < 8
      omega
theorem mq_wbit {M N : mm_M} {b : Int32} (h : mq_P M N) (hf : M.1 5 3 = N.1 84 13) (hz : mq_z N ≤ 1000000000) (hb : b = 0 ∨ b = 1) : mq_2 mq_F (mf_61 b M) (mf_247 b N) (fun a M2 b N2 => mq_po 1 M N a M2 b N2 ∧ mq_z N2 = mq_z N + 1) := by
  obtain ⟨g1, g2, g3, g4, g5, g6⟩ := h.2
  unfold mf_61 mf_247
  rw [← hf, ← g1, ← g4]
  have e1 : (7 - M.1 5 5).toInt = 7 - (M.1 5 5).toInt := by rw [mi_sub]; simp only [Int32.reduceToInt]; omega
  by_cases c : M.1 5 3 = 0
  · rw [if_pos c, if_pos c]
    have s := mi_shl8' (k := M.1 5 5) hb g5 g6
    have o := mi_or8 g2 g3 s.1 s.2
    exact mq_wbitj h hz o.1 o.2
  · rw [if_neg c, if_neg c]
    have s := mi_shl8' (k := 7 - M.1 5 5) hb (by omega) (by omega)
    have o := mi_or8 g2 g3 s.1 s.2
    exact mq_wbitj h hz o.1 o.2
theorem mq_wrest {M N : mm_M} (h : mq_P M N) (hz : mq_z N ≤ 1000000000) : mq_2 mq_F (mf_64 M) (mf_248 N) (mq_po 8 M N) := by
  obtain ⟨hB, g1, g2, g3, g4, g5, g6⟩ := h
  have m0 := hB.2.1
  have z0 : mq_z N = 8 * (N.1 84 41).toInt + (M.1 5 5).toInt := by rw [g4]; rfl
  unfold mf_64 mf_248
  rw [← g1, ← g4]
  by_cases c : 0 < M.1 5 5
  · rw [if_pos c, if_pos c]
    obtain ⟨M2, N2, x1, y1, p, q, k1, k2⟩ := mq_put_w hB (by omega) (mi_and255 g2 g3)
    rw [x1, y1]
    refine mq_2_ret (N := mm_pi (mm_pi N2 84 42 0) 84 43 0) ⟨⟨p, rfl, (by show 0 ≤ (0 : Int32).toInt; decide), (by show (0 : Int32).toInt < 256; decide), rfl, (by show 0 ≤ (0 : Int32).toInt; decide), (by show (0 : Int32).toInt < 8; decide)⟩, ?_, mq_kp_pi (mq_kp_pi (mq_kp_sub k1 rfl) rfl) rfl, mq_kp_pi (mq_kp_pi (mq_kp_sub k2 rfl) rfl) rfl⟩
    show 8 * (N2.1 84 41).toInt + (0 : Int32).toInt ≤ _
    simp only [Int32.reduceToInt]
    omega
  · rw [if_neg c, if_neg c]
    refine mq_2_ret (N := mm_pi (mm_pi N 84 42 0) 84 43 0) ⟨⟨hB, rfl, (by show 0 ≤ (0 : Int32).toInt; decide), (by show (0 : Int32).toInt < 256; decide), rfl, (by show 0 ≤ (0 : Int32).toInt; decide), (by show (0 : Int32).toInt < 8; decide)⟩, ?_, mq_kp_pi (mq_kp_pi mq_kp_refl rfl) rfl, mq_kp_pi (mq_kp_pi mq_kp_refl rfl) rfl⟩
    show 8 * (N.1 84 41).toInt + (0 : Int32).toInt ≤ _
    simp only [Int32.reduceToInt]
    omega
theorem mq_wbits' {M N : mm_M} {v w : Int64} {n d : Int32} (h : mq_P M N) (hf : M.1 5 3 = N.1 84 13) (hd : d = N.1 84 13) (n0 : 0 ≤ n.toInt) (hz : mq_z N + n.toInt ≤ 1000000000) (hb : ∀ k : Int32, 0 ≤ k.toInt → k.toInt < n.toInt → (mm_lshr v k).toInt32 &&& 1 = (mm_lshr w k).toInt32 &&& 1) : mq_2 mq_F (mf_62 v n M) (mf_249 w n d N) (mq_po n.toInt M N) := by
  unfold mf_62 mf_249
  refine mq_2_Bf (P := fun _ M2 _ N2 => mq_P M2 N2 ∧ mq_z N2 ≤ mq_z N + n.toInt ∧ mq_kp mq_wM M M2 ∧ mq_kp mq_wN N N2) ?_ (fun _ _ _ _ q => mq_2_ret q)
  unfold mf_62_L3 mf_249_L3
  refine mq_2_Lf (I := fun (a : Int32) M2 (b : Int32) N2 => a = b ∧ 0 ≤ a.toInt ∧ a.toInt ≤ n.toInt ∧ mq_P M2 N2 ∧ mq_z N2 ≤ mq_z N + a.toInt ∧ mq_kp mq_wM M M2 ∧ mq_kp mq_wN N N2) (m := fun a _ => (n.toInt - a.toInt).toNat) ?_ ⟨rfl, by decide, n0, h, by simp only [Int32.reduceToInt]; omega, mq_kp_refl, mq_kp_refl⟩
  rintro a M2 b N2 ⟨rfl, a0, a1, hP, z2, f1, f2⟩
  unfold mf_62_b3 mf_249_b3 mf_62_j29 mf_249_j27
  by_cases c : a < n
  · rw [if_pos c, if_pos c, (f1 5 3 rfl).1, hd, hf]
    rw [Int32.lt_iff_toInt_lt] at c
    have e1 : (a + 1).toInt = a.toInt + 1 := by rw [mi_add]; simp only [Int32.reduceToInt]; have := mq_hi n; omega
    have en : (n - 1).toInt = n.toInt - 1 := by rw [mi_sub]; simp only [Int32.reduceToInt]; have := mq_hi n; omega
    have ea : (n - 1 - a).toInt = n.toInt - 1 - a.toInt := by rw [mi_sub, en]; have := mq_hi n; omega
    have st : ∀ s : Int32, 0 ≤ s.toInt → s.toInt < n.toInt → mq_2 mq_F (mm_B (mf_61 ((mm_lush v s) &&& (1 : Int64)).toInt32 M2) (fun _ M1 => (some (.inl (.inl (a + (1 : Int32))), M1) : mm_O (Int32 ⊕ Unit)))) (mm_B (mf_247 ((mm_lshr w s).toInt32 &&& (1 : Int32)) N2) (fun _ M1 => (some (.inl (.inl (a + (1 : Int32))), M1) : mm_O (Int32 ⊕ Unit)))) (fun r M3 t N3 => (∃ a2 b2, r = .inl a2 ∧ t = .inl b2 ∧ (a2 = b2 ∧ 0 ≤ a2.toInt ∧ a2.toInt ≤ n.toInt ∧ mq_P M3 N3 ∧ mq_z N3 ≤ mq_z N + a2.toInt ∧ mq_kp mq_wM M M3 ∧ mq_kp mq_wN N N3) ∧ (n.toInt - a2.toInt).toNat < (n.toInt - a.toInt).toNat) ∨ (∃ u w, r = .inr u ∧ t = .inr w ∧ (mq_P M3 N3 ∧ mq_z N3 ≤ mq_z N + n.toInt ∧ mq_kp mq_wM M M3 ∧ mq_kp mq_wN N N3))) := by
      intro s s0 s1
      rw [mi_bitL, hb s s0 s1]
      refine mq_2_Bf (mq_wbit hP (by rw [(f1 5 3 rfl).1, (f2 84 13 rfl).1, hf]) (by omega) (mi_and1 _)) ?_
      rintro _ M3 _ N3 ⟨⟨p, z, k1, k2⟩, _⟩
      exact mq_2_ret (.inl ⟨_, _, rfl, rfl, ⟨rfl, by omega, by omega, p, by omega, mq_kp_trans f1 k1, mq_kp_trans f2 k2⟩, by omega⟩)
    by_cases c2 : N.1 84 13 = 0
    · rw [if_pos c2, if_pos c2]; exact st _ a0 c
    · rw [if_neg c2, if_neg c2]; exact st _ (by omega) (by omega)
  · rw [if_neg c, if_neg c]
    rw [Int32.lt_iff_toInt_lt] at c
    exact mq_2_ret (.inr ⟨_, _, rfl, rfl, hP, by omega, f1, f2⟩)
theorem mq_wbits {M N : mm_M} {v : Int64} {n d : Int32} (h : mq_P M N) (hf : M.1 5 3 = N.1 84 13) (hd : d = N.1 84 13) (n0 : 0 ≤ n.toInt) (hz : mq_z N + n.toInt ≤ 1000000000) : mq_2 mq_F (mf_62 v n M) (mf_249 v n d N) (mq_po n.toInt M N) := mq_wbits' h hf hd n0 hz (fun _ _ _ => rfl)
theorem mq_wcode {M N : mm_M} {v : Int32} {n : Int32} (h : mq_P M N) (hf : M.1 5 3 = N.1 84 13) (n0 : 0 ≤ n.toInt) (n1 : n.toInt ≤ 32) (hz : mq_z N + n.toInt ≤ 1000000000) : mq_2 mq_F (mf_63 v n M) (mf_249 v.toInt64 n 1 N) (mq_po n.toInt M N) := by
  unfold mf_63 mf_249
  refine mq_2_Bf (P := fun _ M2 _ N2 => mq_P M2 N2 ∧ mq_z N2 ≤ mq_z N + n.toInt ∧ mq_kp mq_wM M M2 ∧ mq_kp mq_wN N N2) ?_ (fun _ _ _ _ q => mq_2_ret q)
  have e0 : (n - 1).toInt = n.toInt - 1 := by rw [mi_sub]; simp only [Int32.reduceToInt]; omega
  unfold mf_63_L4 mf_249_L3
  refine mq_2_Lf (I := fun (a : Int32) M2 (b : Int32) N2 => a.toInt + b.toInt = n.toInt - 1 ∧ 0 ≤ b.toInt ∧ b.toInt ≤ n.toInt ∧ mq_P M2 N2 ∧ mq_z N2 ≤ mq_z N + b.toInt ∧ mq_kp mq_wM M M2 ∧ mq_kp mq_wN N N2) (m := fun a _ => (a.toInt + 1).toNat) ?_ ⟨by simp only [Int32.reduceToInt]; omega, by decide, n0, h, by simp only [Int32.reduceToInt]; omega, mq_kp_refl, mq_kp_refl⟩
  rintro a M2 b N2 ⟨ab, b0, b1, hP, z2, f1, f2⟩
  unfold mf_63_b4 mf_249_b3 mf_249_j27
  by_cases c : a < 0
  · have c' : ¬ b < n := by rw [Int32.lt_iff_toInt_lt] at c ⊢; simp only [Int32.reduceToInt] at c; omega
    rw [if_pos c, if_neg c']
    rw [Int32.lt_iff_toInt_lt] at c'
    exact mq_2_ret (.inr ⟨_, _, rfl, rfl, hP, by omega, f1, f2⟩)
  · have c' : b < n := by rw [Int32.lt_iff_toInt_lt] at c ⊢; simp only [Int32.reduceToInt] at c; omega
    rw [if_neg c, if_pos c', if_neg (by decide)]
    rw [Int32.lt_iff_toInt_lt] at c c'
    simp only [Int32.reduceToInt] at c
    have ea : n - 1 - b = a := Int32.toInt_inj.mp (by rw [mi_sub, e0]; omega)
    have e1 : (b + 1).toInt = b.toInt + 1 := by rw [mi_add]; simp only [Int32.reduceToInt]; omega
    have e2 : (a + -1).toInt = a.toInt - 1 := by rw [mi_add]; simp only [Int32.reduceToInt]; omega
    rw [ea, mi_bitI (by omega) (by omega)]
    refine mq_2_Bf (mq_wbit hP (by rw [(f1 5 3 rfl).1, (f2 84 13 rfl).1, hf]) (by omega) (mi_and1 _)) ?_
    rintro _ M3 _ N3 ⟨⟨p, z, k1, k2⟩, _⟩
    exact mq_2_ret (.inl ⟨_, _, rfl, rfl, ⟨by omega, by omega, by omega, p, by omega, mq_kp_trans f1 k1, mq_kp_trans f2 k2⟩, by omega⟩)
