/-! WRITING: WRAPPED, FILES, TAGS -/
theorem mi_ush_bv {x s : Int32} (h0 : 0 ≤ s.toInt) (h1 : s.toInt < 32) : (mm_ush x s).toBitVec = x.toBitVec >>> s.toInt.toNat := by
  have hs : ∀ j : Fin 32, (Int32.ofNat j.val).toBitVec &&& 31 = BitVec.ofNat 32 j.val ∧ (BitVec.ofNat 32 j.val).umod 32 = BitVec.ofNat 32 j.val := by decide
  have e : s = Int32.ofNat s.toInt.toNat := (Int32.ofNat_toNatClampNeg s (Int32.le_iff_toInt_le.mpr h0)).symm
  have h := hs ⟨s.toInt.toNat, by omega⟩
  dsimp only at h
  rw [← e] at h
  show x.toBitVec >>> ((s.toBitVec &&& 31).umod 32) = _
  rw [h.1, h.2]
  show x.toBitVec >>> (BitVec.ofNat 32 s.toInt.toNat).toNat = _
  rw [BitVec.toNat_ofNat, Nat.mod_eq_of_lt (by omega)]
theorem mi_lush_bv {x : Int64} {s : Int32} (h0 : 0 ≤ s.toInt) (h1 : s.toInt < 64) : (mm_lush x s).toBitVec = x.toBitVec >>> s.toInt.toNat := by
  have k : s.toInt64.toBitVec &&& 63 = BitVec.ofNat 64 s.toInt.toNat := by
    apply BitVec.eq_of_toNat_eq
    rw [BitVec.toNat_and, BitVec.toNat_ofNat]
    have : s.toInt64.toBitVec.toNat = s.toInt.toNat := mq_n_i32 h0
    rw [this]
    show s.toInt.toNat &&& (2 ^ 6 - 1) = _
    rw [Nat.and_two_pow_sub_one_eq_mod]
    omega
  show x.toBitVec >>> ((s.toInt64.toBitVec &&& 63).umod 64) = _
  rw [k, (mi_sm6 ⟨s.toInt.toNat, by omega⟩).2]
  show x.toBitVec >>> (BitVec.ofNat 64 s.toInt.toNat).toNat = _
  rw [BitVec.toNat_ofNat, Nat.mod_eq_of_lt (by omega)]
theorem mi_255h : ∀ i : Fin 32, 8 ≤ i.val → (255#32).getLsbD i.val = false := by decide
theorem mi_lu8 {r s : Int32} (h0 : 0 ≤ s.toInt) (h1 : s.toInt ≤ 24) : (mm_lush r.toInt64 s).toInt32 &&& 255 = mm_ush r s &&& 255 := by
  apply Int32.toBitVec_inj.mp
  show (mm_lush r.toInt64 s).toBitVec.signExtend 32 &&& 255#32 = (mm_ush r s).toBitVec &&& 255#32
  rw [mi_lush_bv h0 (by omega), mi_ush_bv h0 (by omega)]
  apply BitVec.eq_of_getLsbD_eq
  intro i hi
  by_cases c : i < 8
  · show (((r.toBitVec.signExtend 64) >>> s.toInt.toNat).signExtend 32 &&& 255#32).getLsbD i = _
    rw [BitVec.getLsbD_and, BitVec.getLsbD_and, BitVec.getLsbD_signExtend, BitVec.getLsbD_ushiftRight, BitVec.getLsbD_ushiftRight, BitVec.getLsbD_signExtend]
    have g1 : i < 64 := by omega
    have g2 : s.toInt.toNat + i < 64 := by omega
    have g3 : s.toInt.toNat + i < 32 := by omega
    simp only [hi, g1, g2, g3, decide_true, if_true, Bool.true_and]
  · have q := mi_255h ⟨i, hi⟩ (show 8 ≤ i from by omega)
    dsimp only at q
    rw [BitVec.getLsbD_and, BitVec.getLsbD_and, q, Bool.and_false, Bool.and_false]
theorem mq_whigh4 {M N : mm_M} {r v1 : Int32} (h : mq_P M N) (hz : mq_z N ≤ 900000000) : mq_2 mq_F (mf_60 r.toInt64 4 M) (mf_285_L91 v1 r 24 N) (mq_po 32 M N) := by
  unfold mf_60
  refine mq_2_Bl' (P := fun _ M2 _ N2 => mq_po 32 M N () M2 () N2) ?_ (fun _ _ _ _ q => ⟨(), rfl, q⟩)
  unfold mf_60_L5 mf_285_L91
  refine mq_2_Lf (I := fun (a : Int32) M2 (b : Int32) N2 => b.toInt = 8 * a.toInt ∧ -1 ≤ a.toInt ∧ a.toInt ≤ 3 ∧ mq_po (8 * (3 - a.toInt)) M N () M2 () N2) (m := fun a _ => (a.toInt + 1).toNat) ?_ ⟨by decide, by decide, by decide, h, by show mq_z N ≤ mq_z N + 8 * (3 - (4 - 1 : Int32).toInt); have : (4 - 1 : Int32).toInt = 3 := rfl; omega, mq_kp_refl, mq_kp_refl⟩
  rintro a M2 b N2 ⟨hb, a0, a1, hP, z2, f1, f2⟩
  unfold mf_60_b5 mf_285_b91
  by_cases c : a < 0
  · have c' : b < 0 := by rw [Int32.lt_iff_toInt_lt] at c ⊢; simp only [Int32.reduceToInt] at c ⊢; omega
    rw [if_pos c, if_pos c']
    rw [Int32.lt_iff_toInt_lt] at c
    simp only [Int32.reduceToInt] at c
    exact mq_2_ret (.inr ⟨_, _, rfl, rfl, hP, by omega, f1, f2⟩)
  · have c' : ¬ b < 0 := by rw [Int32.lt_iff_toInt_lt] at c ⊢; simp only [Int32.reduceToInt] at c ⊢; omega
    rw [if_neg c, if_neg c']
    rw [Int32.lt_iff_toInt_lt] at c
    simp only [Int32.reduceToInt] at c
    have e8 : 8 * a = b := Int32.toInt_inj.mp (by rw [mi_mul, hb]; simp only [Int32.reduceToInt]; omega)
    rw [e8]
    have e1 : (a + -1).toInt = a.toInt - 1 := by rw [mi_add]; simp only [Int32.reduceToInt]; omega
    have e2 : (b + -8).toInt = b.toInt - 8 := by rw [mi_add]; simp only [Int32.reduceToInt]; omega
    refine mq_2_Bf (mq_pb hP (by omega) (by rw [mi_low8, mi_lu8 (by omega) (by omega)])) ?_
    rintro _ M3 _ N3 ⟨⟨p, z, k1, k2⟩, _⟩
    exact mq_2_ret (.inl ⟨_, _, rfl, rfl, ⟨by omega, by omega, by omega, p, by omega, mq_kp_trans f1 k1, mq_kp_trans f2 k2⟩, by omega⟩)
theorem mq_T_eq {M N : mm_M} (h : mq_T M N) : ∀ j : Nat, (0 : Int32).toInt ≤ j → (j : Int) < (M.1 1 1).toInt → M.1 2 j = N.1 85 j := fun j _ hj => (h.2.2.2 j hj).1
theorem mq_pwrapped {M N : mm_M} (h : mq_P M N) (hf : M.1 5 3 = 0) (hz : mq_z N ≤ 1000) : mq_2 mq_F (mf_89 M) (mf_285 2 N) (fun _ M2 _ N2 => mq_P M2 N2) := by
  unfold mf_89 mf_285
  rw [if_pos rfl]
  refine mq_2_Bf (mq_pb h (by omega) (by decide)) ?_
  rintro _ M2 _ N2 ⟨⟨p2, z2, k1, k2⟩, _⟩
  refine mq_2_Bf (mq_pb p2 (by omega) (by decide)) ?_
  rintro _ M3 _ N3 ⟨⟨p3, z3, k3, k4⟩, _⟩
  unfold mf_285_j16
  rw [if_neg (by decide)]
  unfold mf_285_j66
  refine mq_2_Bf (mq_pblock p3 (by rw [(k3 5 3 rfl).1, (k1 5 3 rfl).1]; exact hf) (by omega)) ?_
  rintro _ M4 _ N4 ⟨p4, z4⟩
  rw [if_pos rfl, ← p4.1.1.1]
  have s0 := p4.1.1.2.1
  have s1 := p4.1.1.2.2.1
  obtain ⟨x, e2, e3⟩ := mq_adl_is (x := 0) (p := 2) (n := 10000) (q := 85) (m := 10000) (v1 := 0) (v2 := M4.1 1 1) (M := M4) (N := N4) (by decide) (by omega) (by omega) (mq_T_eq p4.1.1)
  rw [e2, e3, mq_Bs, mq_Bs]
  refine mq_2_Bf (mq_whigh4 p4 (by omega)) ?_
  rintro _ M5 _ N5 ⟨p5, _⟩
  unfold mf_285_j112
  rw [if_neg (by decide)]
  exact mq_2_ret p5
theorem mi_lush0 (s : Int32) : mm_lush 0 s = 0 := by
  apply Int64.toBitVec_inj.mp
  show (0#64) >>> _ = 0#64
  exact BitVec.zero_ushiftRight
theorem mq_wzero6 {M N : mm_M} {v1 : Int32} (h : mq_P M N) (hz : mq_z N ≤ 900000000) : mq_2 mq_F (mf_59 0 6 M) (mf_285_L42 v1 0 N) (mq_po 48 M N) := by
  unfold mf_59
  refine mq_2_Bl' (P := fun _ M2 _ N2 => mq_po 48 M N () M2 () N2) ?_ (fun _ _ _ _ q => ⟨(), rfl, q⟩)
  unfold mf_59_L3 mf_285_L42
  refine mq_2_Lf (I := fun (a : Int32) M2 (b : Int32) N2 => a = b ∧ 0 ≤ a.toInt ∧ a.toInt ≤ 6 ∧ mq_po (8 * a.toInt) M N () M2 () N2) (m := fun a _ => (6 - a.toInt).toNat) ?_ ⟨rfl, by decide, by decide, h, by simp only [Int32.reduceToInt]; omega, mq_kp_refl, mq_kp_refl⟩
  rintro a M2 b N2 ⟨rfl, a0, a1, hP, z2, f1, f2⟩
  unfold mf_59_b3 mf_285_b42
  by_cases c : a < 6
  · rw [if_pos c, if_pos c, mi_lush0]
    rw [Int32.lt_iff_toInt_lt] at c
    simp only [Int32.reduceToInt] at c
    have e1 : (a + 1).toInt = a.toInt + 1 := by rw [mi_add]; simp only [Int32.reduceToInt]; omega
    refine mq_2_Bf (mq_pb hP (by omega) (by decide)) ?_
    rintro _ M3 _ N3 ⟨⟨p, z, k1, k2⟩, _⟩
    exact mq_2_ret (.inl ⟨_, _, rfl, rfl, ⟨rfl, by omega, by omega, p, by omega, mq_kp_trans f1 k1, mq_kp_trans f2 k2⟩, by omega⟩)
  · rw [if_neg c, if_neg c]
    rw [Int32.lt_iff_toInt_lt] at c
    simp only [Int32.reduceToInt] at c
    exact mq_2_ret (.inr ⟨_, _, rfl, rfl, hP, by omega, f1, f2⟩)
theorem mq_pfile {M N : mm_M} (h : mq_P M N) (hf : M.1 5 3 = 0) (hz : mq_z N ≤ 1000) : mq_2 mq_F (mf_90 M) (mf_285 3 N) (fun _ M2 _ N2 => mq_P M2 N2) := by
  unfold mf_90 mf_285
  rw [if_neg (by decide)]
  unfold mf_285_j16
  rw [if_pos rfl]
  refine mq_2_Bf (mq_pb h (by omega) (by decide)) ?_
  rintro _ M2 _ N2 ⟨⟨p2, z2, k1, k2⟩, _⟩
  refine mq_2_Bf (mq_pb p2 (by omega) (by decide)) ?_
  rintro _ M3 _ N3 ⟨⟨p3, z3, k3, k4⟩, _⟩
  refine mq_2_Bf (mq_pb p3 (by omega) (by decide)) ?_
  rintro _ M4 _ N4 ⟨⟨p4, z4, k5, k6⟩, _⟩
  refine mq_2_Bf (mq_wzero6 p4 (by omega)) ?_
  rintro _ M5 _ N5 ⟨p5, z5, k7, k8⟩
  unfold mf_285_j59
  refine mq_2_Bf (mq_pb p5 (by omega) (by decide)) ?_
  rintro _ M6 _ N6 ⟨⟨p6, z6, k9, k10⟩, _⟩
  unfold mf_285_j66
  refine mq_2_Bf (mq_pblock p6 (by rw [(k9 5 3 rfl).1, (k7 5 3 rfl).1, (k5 5 3 rfl).1, (k3 5 3 rfl).1, (k1 5 3 rfl).1]; exact hf) (by omega)) ?_
  rintro _ M7 _ N7 ⟨p7, z7⟩
  rw [if_neg (by decide)]
  unfold mf_285_j112
  rw [if_pos rfl, ← p7.1.1.1]
  have s0 := p7.1.1.2.1
  have s1 := p7.1.1.2.2.1
  obtain ⟨x, e2, e3⟩ := mq_crc_is (p := 2) (n := 10000) (q := 85) (m := 10000) (v1 := 0) (v2 := M7.1 1 1) (M := M7) (N := N7) (by decide) (by omega) (by omega) (mq_T_eq p7.1.1)
  rw [e2, e3, mq_Bs, mq_Bs]
  refine mq_2_Bf (mq_wlowb p7 (by decide) (by decide) (by simp only [Int32.reduceToInt]; omega)) ?_
  rintro _ M8 _ N8 ⟨⟨p8, z8, k11, k12⟩, _⟩
  simp only [Int32.reduceToInt] at z8
  rw [← p8.1.1.1]
  refine mq_2_Bf (mq_wlowb p8 (by decide) (by decide) (by simp only [Int32.reduceToInt]; omega)) ?_
  rintro _ M9 _ N9 ⟨⟨p9, _⟩, _⟩
  exact mq_2_ret p9
theorem mq_pblock1 {M N : mm_M} (h : mq_P M N) (hf : M.1 5 3 = 0) (hz : mq_z N ≤ 1000) : mq_2 mq_F (mf_91 M) (mf_285 1 N) (fun _ M2 _ N2 => mq_P M2 N2) := by
  unfold mf_285
  rw [if_neg (by decide)]
  unfold mf_285_j16
  rw [if_neg (by decide)]
  unfold mf_285_j66
  refine mq_2_Br' (mq_pblock h hf (by omega)) ?_ ?_
  · rintro _ M2 b N2 ⟨p2, _⟩
    rw [if_neg (by decide)]
    unfold mf_285_j112
    rw [if_neg (by decide)]
    exact ⟨(), rfl, p2⟩
  · rintro _ _ _ q
    exact q.elim
theorem mi_tg4 : ∀ n : Fin 64, (Int32.ofNat n.val * 4) &&& 255 = mm_shl (Int32.ofNat n.val) 2 ∧ (Int32.ofNat n.val * 4 + 2) &&& 255 = mm_shl (Int32.ofNat n.val) 2 ||| 2 := by decide
theorem mi_tg4' {n : Int32} (h0 : 0 ≤ n.toInt) (h1 : n.toInt < 64) : (n * 4) &&& 255 = mm_shl n 2 ∧ (n * 4 + 2) &&& 255 = mm_shl n 2 ||| 2 := by
  have e : n = Int32.ofNat n.toInt.toNat := (Int32.ofNat_toNatClampNeg n (Int32.le_iff_toInt_le.mpr h0)).symm
  have h := mi_tg4 ⟨n.toInt.toNat, by omega⟩
  dsimp only at h
  rw [← e] at h
  exact h
/-- plain bytes with their TAG -/
theorem mq_wtag {M N : mm_M} {v1 v2 : Int32} (h : mq_P M N) (a0 : 0 ≤ v1.toInt) (a1 : v1.toInt ≤ v2.toInt) (a2 : v2.toInt ≤ (M.1 1 1).toInt) (hz : mq_z N ≤ 900000000) : mq_2 mq_F (mf_136 v1 v2 M) (mf_268 v1 v2 N) (mq_po (32 * (v2.toInt - v1.toInt)) M N) := by
  have s10 := h.1.1.2.2.1
  have e0 : (v2 - v1).toInt = v2.toInt - v1.toInt := by rw [mi_sub]; omega
  have e1 : (v2 - v1 - 1).toInt = v2.toInt - v1.toInt - 1 := by rw [mi_sub, e0]; simp only [Int32.reduceToInt]; omega
  have tp : ∀ M2 N2, ∀ c : Int, mq_po c M N () M2 () N2 → c ≤ 24 → 1 ≤ v2.toInt - v1.toInt → mq_2 mq_F (mf_136_j78 v1 v2 M2) (mf_268_j63 v1 v2 N2) (mq_po (32 * (v2.toInt - v1.toInt)) M N) := by
    rintro M2 N2 c ⟨p2, z2, k1, k2⟩ hc hv
    unfold mf_136_j78 mf_268_j63
    refine mq_2_Bf (mq_wtape p2 a0 a1 (by rw [(k1 1 1 rfl).1]; exact a2) (by omega)) ?_
    rintro _ M3 _ N3 ⟨⟨p3, z3, k3, k4⟩, _⟩
    exact mq_2_ret ⟨p3, by omega, mq_kp_trans k1 k3, mq_kp_trans k2 k4⟩
  unfold mf_136 mf_268
  by_cases c1 : v2 - v1 - 1 < 0
  · rw [if_pos c1, if_pos c1]
    exact mq_2_ret ⟨h, by omega, mq_kp_refl, mq_kp_refl⟩
  rw [if_neg c1, if_neg c1]
  rw [Int32.lt_iff_toInt_lt, e1] at c1
  simp only [Int32.reduceToInt] at c1
  by_cases c2 : v2 - v1 - 1 < 60
  · rw [if_pos c2, if_pos c2]
    rw [Int32.lt_iff_toInt_lt, e1] at c2
    simp only [Int32.reduceToInt] at c2
    refine mq_2_Bf (mq_pb h (by omega) (mi_tg4' (by omega) (by omega)).1) ?_
    rintro _ M2 _ N2 ⟨q, _⟩
    exact tp M2 N2 8 q (by decide) (by omega)
  rw [if_neg c2, if_neg c2]
  by_cases c3 : v2 - v1 - 1 < 256
  · rw [if_pos c3, if_pos c3]
    rw [Int32.lt_iff_toInt_lt, e1] at c3
    simp only [Int32.reduceToInt] at c3
    refine mq_2_Bf (mq_pb h (by omega) (by decide)) ?_
    rintro _ M2 _ N2 ⟨⟨p2, z2, k1, k2⟩, _⟩
    refine mq_2_Bf (mq_pb p2 (by omega) (mi_and255 (by omega) (by omega))) ?_
    rintro _ M3 _ N3 ⟨⟨p3, z3, k3, k4⟩, _⟩
    exact tp M3 N3 16 ⟨p3, by omega, mq_kp_trans k1 k3, mq_kp_trans k2 k4⟩ (by decide) (by omega)
  rw [if_neg c3, if_neg c3]
  refine mq_2_Bf (mq_pb h (by omega) (by decide)) ?_
  rintro _ M2 _ N2 ⟨⟨p2, z2, k1, k2⟩, _⟩
  refine mq_2_Bf (mq_wlowb p2 (by decide) (by decide) (by simp only [Int32.reduceToInt]; omega)) ?_
  rintro _ M3 _ N3 ⟨⟨p3, z3, k3, k4⟩, _⟩
  simp only [Int32.reduceToInt] at z3
  exact tp M3 N3 24 ⟨p3, by omega, mq_kp_trans k1 k3, mq_kp_trans k2 k4⟩ (by decide) (by omega)
/-- TAGS are written -/
theorem mq_ptags {M N : mm_M} (h : mq_P M N) (hz : mq_z N ≤ 1000) : mq_2 mq_F (mf_135 M) (mf_269 N) (fun _ M2 _ N2 => mq_P M2 N2) := by
  have s10 := h.1.1.2.2.1
  have s0 := h.1.1.2.1
  obtain ⟨sz, hsz⟩ : ∃ sz : Nat, (M.1 1 1).toInt = sz := ⟨(M.1 1 1).toInt.toNat, by omega⟩
  unfold mf_135 mf_269
  rw [← h.1.1.1]
  refine mq_2_Bf (P := fun a M2 b N2 => a = b ∧ 0 ≤ a.toInt ∧ a.toInt ≤ 127 ∧ mq_po 8 M N () M2 () N2) ?_ ?_
  · unfold mf_135_L12 mf_269_L5
    refine mq_2_Lf (I := fun (a : Int32 × Int32) M2 (b : Int32) N2 => a.1 = b ∧ 0 ≤ b.toInt ∧ (a.2 = 0 ∧ b.toInt ≤ 10000 ∧ mq_po 0 M N () M2 () N2 ∨ a.2 = 1 ∧ b.toInt ≤ 127 ∧ mq_po 8 M N () M2 () N2)) (m := fun a _ => (2 - a.2.toInt).toNat) ?_ ⟨rfl, s0, .inl ⟨rfl, s10, h, by omega, mq_kp_refl, mq_kp_refl⟩⟩
    rintro ⟨n, k⟩ M2 b N2 ⟨rfl, n0, hk⟩
    dsimp only at hk n0 ⊢
    unfold mf_135_b12 mf_269_b5
    rcases hk with ⟨rfl, n1, p2, z2, k1, k2⟩ | ⟨rfl, n1, hpo⟩
    · rw [if_pos (by decide)]
      by_cases c : n < 128
      · have c' : ¬ 127 < n := by rw [Int32.lt_iff_toInt_lt] at c ⊢; simp only [Int32.reduceToInt] at c ⊢; omega
        rw [if_pos c, if_neg c']
        rw [Int32.lt_iff_toInt_lt] at c
        simp only [Int32.reduceToInt] at c
        exact mq_2_ret (.inr ⟨_, _, rfl, rfl, rfl, n0, by omega, p2, by omega, k1, k2⟩)
      · have c' : 127 < n := by rw [Int32.lt_iff_toInt_lt] at c ⊢; simp only [Int32.reduceToInt] at c ⊢; omega
        rw [if_neg c, if_pos c']
        have a1 : (n &&& 127).toInt = n.toInt % 128 := mi_and n 7 (by decide)
        have o := mi_or8 (x := n &&& 127) (y := 128) (by omega) (by omega) (by decide) (by decide)
        refine mq_2_Bf (mq_pb p2 (by omega) (mi_and255 o.1 o.2)) ?_
        rintro _ M3 _ N3 ⟨⟨p3, z3, k3, k4⟩, _⟩
        have e7 : (mm_shr n 7).toInt = n.toInt / 128 := by rw [mi_shr_nat n0 (by decide) (by decide)]; rfl
        exact mq_2_ret (.inl ⟨_, _, rfl, rfl, ⟨rfl, by omega, .inr ⟨rfl, by omega, p3, by omega, mq_kp_trans k1 k3, mq_kp_trans k2 k4⟩⟩, by show (2 - (0 + 1 : Int32).toInt).toNat < (2 - (0 : Int32).toInt).toNat; decide⟩)
    · rw [if_pos (by decide)]
      have c : n < 128 := by rw [Int32.lt_iff_toInt_lt]; simp only [Int32.reduceToInt]; omega
      have c' : ¬ 127 < n := by rw [Int32.lt_iff_toInt_lt]; simp only [Int32.reduceToInt]; omega
      rw [if_pos c, if_neg c']
      exact mq_2_ret (.inr ⟨_, _, rfl, rfl, rfl, n0, n1, hpo⟩)
  · rintro a M2 b N2 ⟨rfl, a0, a1, p2, z2, k1, k2⟩
    unfold mf_135_j50 mf_269_j31
    refine mq_2_Bf (mq_pb p2 (by omega) (mi_and255 a0 (by omega))) ?_
    rintro _ M3 _ N3 ⟨⟨p3, z3, k3, k4⟩, _⟩
    have e13 : M3.1 1 1 = M.1 1 1 := by rw [(k3 1 1 rfl).1]; exact (k1 1 1 rfl).1
    obtain ⟨_, M4, x4, hF, k0⟩ := mq_fstart (M := M3) (sz := sz) (by rw [e13]; exact hsz) (by omega)
    rw [x4, mq_Bs]
    have hP4 : mq_P M4 N3 := mq_P_kp p3 k0 (mq_kp_refl (l := [])) rfl rfl
    have e14 : M4.1 1 1 = M.1 1 1 := by rw [(k0 1 1 rfl).1]; exact e13
    refine mq_2_Bf (P := fun a M2 b N2 => a = b ∧ 0 ≤ a.toInt ∧ a.toInt ≤ (M.1 1 1).toInt ∧ mq_P M2 N2 ∧ M2.1 1 1 = M.1 1 1 ∧ mq_z N2 ≤ mq_z N3 + 32 * a.toInt) ?_ ?_
    · unfold mf_135_L70 mf_269_L40
      refine mq_2_Lf (I := fun (a : Int32 × Int32) M2 (b : Int32 × Int32) N2 => a = b ∧ 0 ≤ a.1.toInt ∧ a.1.toInt ≤ a.2.toInt ∧ a.2.toInt ≤ (M.1 1 1).toInt ∧ mq_P M2 N2 ∧ M2.1 1 1 = M.1 1 1 ∧ mq_z N2 ≤ mq_z N3 + 32 * a.1.toInt ∧ ∃ F : Nat, (F : Int) ≤ a.2.toInt ∧ mq_FI (M3.1 2) sz F M2) (m := fun a _ => ((M.1 1 1).toInt - a.2.toInt).toNat) ?_ ⟨rfl, by decide, by decide, s0, hP4, e14, by simp only [Int32.reduceToInt]; omega, 0, by decide, hF⟩
      rintro ⟨fr, at_⟩ M5 b N5 ⟨rfl, f0, f1, a1, hP, es, z5, F, hFa, hF5⟩
      dsimp only at f0 f1 a1 z5 hFa ⊢
      unfold mf_135_b70 mf_269_b40
      have eN : N5.1 84 2 = M.1 1 1 := by rw [← hP.1.1.1]; exact es
      rw [eN]
      by_cases c : at_ < M.1 1 1
      · rw [if_pos c, if_pos c]
        rw [Int32.lt_iff_toInt_lt] at c
        obtain ⟨p, hp⟩ : ∃ p : Nat, at_.toInt = p := ⟨at_.toInt.toNat, by omega⟩
        obtain ⟨lim, hlim⟩ : ∃ lim : Nat, (lim : Int) = if (M.1 1 1).toInt - at_.toInt < 64 then (M.1 1 1).toInt - at_.toInt else 64 := ⟨(if (M.1 1 1).toInt - at_.toInt < 64 then (M.1 1 1).toInt - at_.toInt else 64).toNat, by split <;> omega⟩
        have hl64 : lim ≤ 64 := by
          by_cases q : (M.1 1 1).toInt - at_.toInt < 64
          · rw [if_pos q] at hlim; omega
          · rw [if_neg q] at hlim; omega
        have hl10 : (lim : Int) ≤ (M.1 1 1).toInt - at_.toInt := by
          by_cases q : (M.1 1 1).toInt - at_.toInt < 64
          · rw [if_pos q] at hlim; omega
          · rw [if_neg q] at hlim; omega
        refine mq_2_Bf (mq_fl (lim := lim) (p := p) hP.1.1 hF5 (by rw [es]; exact hsz) (by omega) hp (by omega) (by decide) (by rw [hlim, ← hsz, ← hp]; rfl) (by omega) (by omega) (by decide) (by rw [hlim, ← hp]; rfl) (by decide)) ?_
        rintro _ M6 _ N6 ⟨⟨G, hG, hF6⟩, k5, k6, hb⟩
        have hP6 : mq_P M6 N6 := mq_P_kp hP k5 k6 rfl rfl
        have es6 : M6.1 1 1 = M.1 1 1 := by rw [(k5 1 1 rfl).1]; exact es
        have z6 : mq_z N6 = mq_z N5 := mq_z_kp k6 rfl rfl
        have ea : (at_ + 1).toInt = at_.toInt + 1 := by rw [mi_add]; simp only [Int32.reduceToInt]; omega
        by_cases d : N6.1 84 44 < 4
        · have d' : M6.1 13 0 < 4 := by
            rcases hb with ⟨_, q, _⟩ | ⟨_, q⟩
            · rw [q]; exact d
            · rw [q]; decide
          rw [if_pos d, if_pos d']
          exact mq_2_ret (.inl ⟨_, _, rfl, rfl, ⟨rfl, f0, by dsimp only; omega, by dsimp only; omega, hP6, es6, by dsimp only; omega, G, by dsimp only; omega, hF6⟩, by dsimp only; omega⟩)
        · rw [if_neg d]
          rw [Int32.lt_iff_toInt_lt] at d
          simp only [Int32.reduceToInt] at d
          obtain ⟨_, q1, q2, q3, q4, q5⟩ := hb.resolve_right (fun q => by omega)
          rw [q1, q2, if_neg (by rw [Int32.lt_iff_toInt_lt]; simp only [Int32.reduceToInt]; omega), if_neg (by rw [Int32.lt_iff_toInt_lt]; simp only [Int32.reduceToInt]; omega)]
          refine mq_2_Bf (mq_wtag hP6 f0 f1 (by rw [es6]; exact a1) (by omega)) ?_
          rintro _ M7 _ N7 ⟨p7, z7, k7, k8⟩
          have c0 : M7.1 13 0 = N6.1 84 44 := by rw [(k7 13 0 rfl).1]; exact q1
          have c1 : N7.1 84 44 = N6.1 84 44 := (k8 84 44 rfl).1
          rw [c0, c1]
          have eb1 : (N6.1 84 44 - 1).toInt = (N6.1 84 44).toInt - 1 := by rw [mi_sub]; simp only [Int32.reduceToInt]; omega
          refine mq_2_Bf (mq_pb p7 (by omega) (mi_tg4' (by omega) (by omega)).2) ?_
          rintro _ M8 _ N8 ⟨⟨p8, z8, k9, k10⟩, _⟩
          have d0 : M8.1 13 1 = N6.1 84 45 := by rw [(k9 13 1 rfl).1, (k7 13 1 rfl).1]; exact q2
          have d1 : N8.1 84 45 = N6.1 84 45 := by rw [(k10 84 45 rfl).1, (k8 84 45 rfl).1]
          rw [d0, d1]
          refine mq_2_Bf (mq_wlowb p8 (by decide) (by decide) (by simp only [Int32.reduceToInt]; omega)) ?_
          rintro _ M9 _ N9 ⟨⟨p9, z9, k11, k12⟩, _⟩
          simp only [Int32.reduceToInt] at z9
          have g0 : M9.1 13 0 = N6.1 84 44 := by rw [(k11 13 0 rfl).1, (k9 13 0 rfl).1]; exact c0
          have g1 : N9.1 84 44 = N6.1 84 44 := by rw [(k12 84 44 rfl).1, (k10 84 44 rfl).1]; exact c1
          rw [g0, g1]
          have kk := mq_kp_trans k7 (mq_kp_trans k9 k11)
          have eb : (at_ + N6.1 84 44).toInt = at_.toInt + (N6.1 84 44).toInt := by rw [mi_add]; omega
          exact mq_2_ret (.inl ⟨_, _, rfl, rfl, ⟨rfl, by dsimp only; omega, by dsimp only; omega, by dsimp only; omega, p9, by rw [(kk 1 1 rfl).1]; exact es6, by dsimp only; omega, G, by dsimp only; omega, mq_FI_kp hF6 kk rfl rfl (fun _ => rfl) (fun _ => rfl) (fun _ => rfl)⟩, by dsimp only; omega⟩)
      · rw [if_neg c, if_neg c]
        exact mq_2_ret (.inr ⟨_, _, rfl, rfl, rfl, f0, by omega, hP, es, z5⟩)
    · rintro a M5 b N5 ⟨rfl, a0, a1, hP, es, z5⟩
      unfold mf_135_j177 mf_269_j117
      rw [← hP.1.1.1, es]
      refine mq_2_Bf (mq_wtag hP a0 a1 (by rw [es]; omega) (by omega)) ?_
      rintro _ M6 _ N6 ⟨p6, _⟩
      exact mq_2_ret p6
