/-! WRITING: rows of bytes; RUNS -/
theorem mi_255b : ∀ i : Fin 32, (255#64).getLsbD i.val = (255#32).getLsbD i.val := by decide
theorem mi_low8 (x : Int64) : (x &&& 255).toInt32 &&& 255 = x.toInt32 &&& 255 := by
  apply Int32.toBitVec_inj.mp
  show (x.toBitVec &&& 255#64).signExtend 32 &&& 255#32 = x.toBitVec.signExtend 32 &&& 255#32
  apply BitVec.eq_of_getLsbD_eq
  intro i hi
  have h := mi_255b ⟨i, hi⟩
  dsimp only at h
  rw [BitVec.getLsbD_and, BitVec.getLsbD_and, BitVec.getLsbD_signExtend, BitVec.getLsbD_signExtend, BitVec.getLsbD_and, h]
  have : i < 64 := by omega
  simp only [hi, this, decide_true, if_true, Bool.true_and, Bool.and_assoc, Bool.and_self]
theorem mq_wlowb {M N : mm_M} {v : Int64} {n : Int32} (h : mq_P M N) (n0 : 0 ≤ n.toInt) (n1 : n.toInt ≤ 1000) (hz : mq_z N + 8 * n.toInt ≤ 1000000000) : mq_2 mq_F (mf_59 v n M) (mf_246 v n N) (fun a M2 b N2 => mq_po (8 * n.toInt) M N a M2 b N2 ∧ (N2.1 84 41).toInt = (N.1 84 41).toInt + n.toInt) := by
  unfold mf_59 mf_246
  refine mq_2_Bf (P := fun _ M2 _ N2 => mq_po (8 * n.toInt) M N () M2 () N2 ∧ (N2.1 84 41).toInt = (N.1 84 41).toInt + n.toInt) ?_ (fun _ _ _ _ q => mq_2_ret q)
  unfold mf_59_L3 mf_246_L3
  refine mq_2_Lf (I := fun (a : Int32) M2 (b : Int32) N2 => a = b ∧ 0 ≤ a.toInt ∧ a.toInt ≤ n.toInt ∧ mq_po (8 * a.toInt) M N () M2 () N2 ∧ (N2.1 84 41).toInt = (N.1 84 41).toInt + a.toInt) (m := fun a _ => (n.toInt - a.toInt).toNat) ?_ ⟨rfl, by decide, n0, ⟨h, by simp only [Int32.reduceToInt]; omega, mq_kp_refl, mq_kp_refl⟩, by simp only [Int32.reduceToInt]; omega⟩
  rintro a M2 b N2 ⟨rfl, a0, a1, ⟨hP, z2, f1, f2⟩, hm⟩
  unfold mf_59_b3 mf_246_b3
  by_cases c : a < n
  · rw [if_pos c, if_pos c]
    rw [Int32.lt_iff_toInt_lt] at c
    have e1 : (a + 1).toInt = a.toInt + 1 := by rw [mi_add]; simp only [Int32.reduceToInt]; omega
    refine mq_2_Bf (mq_pb hP (by omega) (mi_low8 _)) ?_
    rintro _ M3 _ N3 ⟨⟨p, z, k1, k2⟩, m3⟩
    exact mq_2_ret (.inl ⟨_, _, rfl, rfl, ⟨rfl, by omega, by omega, ⟨p, by omega, mq_kp_trans f1 k1, mq_kp_trans f2 k2⟩, by omega⟩, by omega⟩)
  · rw [if_neg c, if_neg c]
    rw [Int32.lt_iff_toInt_lt] at c
    exact mq_2_ret (.inr ⟨_, _, rfl, rfl, ⟨hP, by omega, f1, f2⟩, by omega⟩)
theorem mq_wall {β : Type} {s2 : Int32 → mm_M → mm_O (Int32 ⊕ β)} {g : Int32 → β} {M N : mm_M} {v2 v3 : Int32} (hs2 : ∀ a N, s2 a N = if a < v3 then (if mm_in a 10000 then mm_B (mf_245 (N.1 85 a.toNatClampNeg) N) (fun _ M1 => some (.inl (.inl (a + (1 : Int32))), M1)) else none) else some (.inl (.inr (g a)), N)) (h : mq_P M N) (a0 : 0 ≤ v2.toInt) (a1 : v2.toInt ≤ v3.toInt) (a2 : v3.toInt ≤ (M.1 1 1).toInt) (hz : mq_z N + 8 * (v3.toInt - v2.toInt) ≤ 1000000000) : mq_2 mq_F (mf_58_L3 v3 v2 M) (mm_L s2 v2 N) (fun _ M2 b N2 => b = g v3 ∧ mq_po (8 * (v3.toInt - v2.toInt)) M N () M2 () N2 ∧ (N2.1 84 41).toInt = (N.1 84 41).toInt + (v3.toInt - v2.toInt)) := by
  have s10 : (M.1 1 1).toInt ≤ 10000 := h.1.1.2.2.1
  unfold mf_58_L3
  refine mq_2_Lf (I := fun (a : Int32) M2 (b : Int32) N2 => a = b ∧ v2.toInt ≤ a.toInt ∧ a.toInt ≤ v3.toInt ∧ mq_po (8 * (a.toInt - v2.toInt)) M N () M2 () N2 ∧ (N2.1 84 41).toInt = (N.1 84 41).toInt + (a.toInt - v2.toInt)) (m := fun a _ => (v3.toInt - a.toInt).toNat) ?_ ⟨rfl, by omega, a1, ⟨h, by omega, mq_kp_refl, mq_kp_refl⟩, by omega⟩
  rintro a M2 b N2 ⟨rfl, b0, b1, ⟨hP, z2, f1, f2⟩, hm⟩
  rw [hs2]
  unfold mf_58_b3
  by_cases c : a < v3
  · rw [if_pos c, if_pos c]
    rw [Int32.lt_iff_toInt_lt] at c
    have e1 : (a + 1).toInt = a.toInt + 1 := by rw [mi_add]; simp only [Int32.reduceToInt]; omega
    have e11 : M2.1 1 1 = M.1 1 1 := (f1 1 1 rfl).1
    have hin : mm_in a 10000 = true := mq_inr (by omega) (by omega)
    obtain ⟨q1, q2, q3⟩ := hP.1.1.2.2.2 a.toNatClampNeg (by rw [mq_cl, e11]; omega)
    rw [if_pos hin, if_pos hin, ← q1]
    refine mq_2_Bf (mq_pb hP (by omega) (mi_and255 q2 q3)) ?_
    rintro _ M3 _ N3 ⟨⟨p, z, k1, k2⟩, m3⟩
    exact mq_2_ret (.inl ⟨_, _, rfl, rfl, ⟨rfl, by omega, by omega, ⟨p, by omega, mq_kp_trans f1 k1, mq_kp_trans f2 k2⟩, by omega⟩, by omega⟩)
  · rw [if_neg c, if_neg c]
    rw [Int32.lt_iff_toInt_lt] at c
    have : a = v3 := Int32.toInt_inj.mp (by omega)
    subst this
    exact mq_2_ret (.inr ⟨_, _, rfl, rfl, rfl, ⟨hP, by omega, f1, f2⟩, by omega⟩)
theorem mq_wtape {M N : mm_M} {v2 v3 : Int32} (h : mq_P M N) (a0 : 0 ≤ v2.toInt) (a1 : v2.toInt ≤ v3.toInt) (a2 : v3.toInt ≤ (M.1 1 1).toInt) (hz : mq_z N + 8 * (v3.toInt - v2.toInt) ≤ 1000000000) : mq_2 mq_F (mf_58 v2 v3 M) (mf_267 v2 v3 N) (fun a M2 b N2 => mq_po (8 * (v3.toInt - v2.toInt)) M N a M2 b N2 ∧ (N2.1 84 41).toInt = (N.1 84 41).toInt + (v3.toInt - v2.toInt)) := by
  unfold mf_58 mf_267
  exact mq_2_Bf (mq_wall (g := fun _ => ()) (fun _ _ => rfl) h a0 a1 a2 hz) (fun _ _ _ _ q => mq_2_ret q.2)
/-- how many are alike -/
def mq_rn (t : Nat → Int32) (sz v1 v2 r : Int) : Prop := 1 ≤ r ∧ r ≤ v2 ∧ v1 + r ≤ sz ∧ (∀ i : Nat, (i : Int) < r → t (v1.toNat + i) = t v1.toNat) ∧ (r < v2 → v1 + r < sz → t (v1.toNat + r.toNat) ≠ t v1.toNat)
theorem mq_run {M N : mm_M} {v1 v2 : Int32} (hT : mq_T M N) (a0 : 0 ≤ v1.toInt) (a1 : v1.toInt < (M.1 1 1).toInt) (m0 : 1 ≤ v2.toInt) (m1 : v2.toInt ≤ 1000) : ∃ r : Int32, mf_128 v1 v2 M = some (.inl r, M) ∧ mf_251 v1 v2 N = some (.inl r, N) ∧ mq_rn (M.1 2) (M.1 1 1).toInt v1.toInt v2.toInt r.toInt := by
  obtain ⟨t1, t2, t3, t4⟩ := hT
  have L : mq_2 mq_F (mf_128 v1 v2 M) (mf_251 v1 v2 N) (fun r M2 b N2 => r = b ∧ M2 = M ∧ N2 = N ∧ mq_rn (M.1 2) (M.1 1 1).toInt v1.toInt v2.toInt r.toInt) := by
    unfold mf_128 mf_251
    refine mq_2_Bf (P := fun r M2 b N2 => r = b ∧ M2 = M ∧ N2 = N ∧ mq_rn (M.1 2) (M.1 1 1).toInt v1.toInt v2.toInt r.toInt) ?_ (fun _ _ _ _ q => mq_2_ret q)
    unfold mf_128_L2 mf_251_L2
    refine mq_2_Lf (I := fun (r : Int32) M2 (b : Int32) N2 => r = b ∧ M2 = M ∧ N2 = N ∧ 1 ≤ r.toInt ∧ r.toInt ≤ v2.toInt ∧ v1.toInt + r.toInt ≤ (M.1 1 1).toInt ∧ ∀ i : Nat, (i : Int) < r.toInt → M.1 2 (v1.toInt.toNat + i) = M.1 2 v1.toInt.toNat) (m := fun a _ => (v2.toInt - a.toInt).toNat) ?_ ⟨rfl, rfl, rfl, by decide, m0, by simp only [Int32.reduceToInt]; omega, fun i hi => ?_⟩
    · rintro r M2 b N2 ⟨rfl, rfl, rfl, r0, r1, r2, r3⟩
      unfold mf_128_b2 mf_251_b2
      have e1 : (v1 + r).toInt = v1.toInt + r.toInt := by rw [mi_add]; omega
      have e2 : (r + 1).toInt = r.toInt + 1 := by rw [mi_add]; simp only [Int32.reduceToInt]; omega
      rw [← t1]
      by_cases c : r < v2
      · rw [if_pos c, if_pos c]
        rw [Int32.lt_iff_toInt_lt] at c
        by_cases d : v1 + r < M2.1 1 1
        · rw [if_pos d, if_pos d]
          rw [Int32.lt_iff_toInt_lt] at d
          have i1 : mm_in (v1 + r) 10000 = true := mq_inr (by omega) (by omega)
          have i2 : mm_in v1 10000 = true := mq_inr (by omega) (by omega)
          have n1 : (v1 + r).toNatClampNeg = v1.toInt.toNat + r.toInt.toNat := by rw [mq_cl]; omega
          rw [if_pos i1, if_pos i1, if_pos i2, if_pos i2, ← (t4 (v1 + r).toNatClampNeg (by rw [mq_cl]; omega)).1, ← (t4 v1.toNatClampNeg (by rw [mq_cl]; omega)).1, n1, mq_cl v1]
          by_cases q : M2.1 2 (v1.toInt.toNat + r.toInt.toNat) = M2.1 2 v1.toInt.toNat
          · rw [if_pos q, if_pos q]
            refine mq_2_ret (.inl ⟨_, _, rfl, rfl, ⟨rfl, rfl, rfl, by omega, by omega, by omega, fun i hi => ?_⟩, by omega⟩)
            by_cases z : (i : Int) < r.toInt
            · exact r3 i z
            · have : i = r.toInt.toNat := by omega
              rw [this, q]
          · rw [if_neg q, if_neg q]
            exact mq_2_ret (.inr ⟨_, _, rfl, rfl, rfl, rfl, rfl, r0, r1, r2, r3, fun _ _ => q⟩)
        · rw [if_neg d, if_neg d]
          rw [Int32.lt_iff_toInt_lt] at d
          exact mq_2_ret (.inr ⟨_, _, rfl, rfl, rfl, rfl, rfl, r0, r1, r2, r3, fun _ z => by omega⟩)
      · rw [if_neg c, if_neg c]
        rw [Int32.lt_iff_toInt_lt] at c
        exact mq_2_ret (.inr ⟨_, _, rfl, rfl, rfl, rfl, rfl, r0, r1, r2, r3, fun z => by omega⟩)
    · simp only [Int32.reduceToInt] at hi
      have : i = 0 := by omega
      rw [this, Nat.add_zero]
  obtain ⟨b, N2, e, q⟩ := L
  rcases q with ⟨a, M2, e1, rfl, rfl, rfl, q⟩ | ⟨_, _, q⟩
  · exact ⟨_, e1, e, q⟩
  · exact q.elim
theorem mq_rn3 {t : Nat → Int32} {sz v1 r r3 : Int} (h : mq_rn t sz v1 128 r) (g : mq_rn t sz v1 3 r3) (hr : r < 3) : r3 < 3 := by
  obtain ⟨h1, h2, h3, h4, h5⟩ := h
  obtain ⟨g1, g2, g3, g4, g5⟩ := g
  apply Decidable.byContradiction
  intro c
  exact h5 (by omega) (by omega) (g4 r.toNat (by omega))
/-- the plain bytes up to the next run -/
theorem mq_rlit {M N : mm_M} {v1 a : Int32} (hT : mq_T M N) (a0 : 0 ≤ v1.toInt) (a1 : v1.toInt ≤ a.toInt) (a2 : a.toInt ≤ (M.1 1 1).toInt) (a3 : a.toInt - v1.toInt ≤ 128) : ∃ r : Int32, mf_127_L66 v1 a M = some (.inl r, M) ∧ mf_252_L52 v1 a N = some (.inl r, N) ∧ a.toInt ≤ r.toInt ∧ r.toInt ≤ (M.1 1 1).toInt ∧ r.toInt - v1.toInt ≤ 128 := by
  have s10 := hT.2.2.1
  have L : mq_2 mq_F (mf_127_L66 v1 a M) (mf_252_L52 v1 a N) (fun r M2 b N2 => r = b ∧ M2 = M ∧ N2 = N ∧ a.toInt ≤ r.toInt ∧ r.toInt ≤ (M.1 1 1).toInt ∧ r.toInt - v1.toInt ≤ 128) := by
    unfold mf_127_L66 mf_252_L52
    refine mq_2_Lf (I := fun (r : Int32) M2 (b : Int32) N2 => r = b ∧ M2 = M ∧ N2 = N ∧ a.toInt ≤ r.toInt ∧ r.toInt ≤ (M.1 1 1).toInt ∧ r.toInt - v1.toInt ≤ 128) (m := fun r _ => ((M.1 1 1).toInt - r.toInt).toNat) ?_ ⟨rfl, rfl, rfl, Int.le_refl _, a2, a3⟩
    rintro r M2 b N2 ⟨rfl, rfl, rfl, r0, r1, r2⟩
    unfold mf_127_b66 mf_252_b52
    rw [← hT.1]
    have e1 : (r - v1).toInt = r.toInt - v1.toInt := by rw [mi_sub]; omega
    have e2 : (r + 1).toInt = r.toInt + 1 := by rw [mi_add]; simp only [Int32.reduceToInt]; omega
    have ex : mq_2 mq_F (some (.inl (.inr r), M2) : mm_O (Int32 ⊕ Int32)) (some (.inl (.inr r), N2) : mm_O (Int32 ⊕ Int32)) (fun t M3 u N3 => (∃ a2 b2, t = .inl a2 ∧ u = .inl b2 ∧ (a2 = b2 ∧ M3 = M2 ∧ N3 = N2 ∧ a.toInt ≤ a2.toInt ∧ a2.toInt ≤ (M2.1 1 1).toInt ∧ a2.toInt - v1.toInt ≤ 128) ∧ ((M2.1 1 1).toInt - a2.toInt).toNat < ((M2.1 1 1).toInt - r.toInt).toNat) ∨ (∃ x y, t = .inr x ∧ u = .inr y ∧ x = y ∧ M3 = M2 ∧ N3 = N2 ∧ a.toInt ≤ x.toInt ∧ x.toInt ≤ (M2.1 1 1).toInt ∧ x.toInt - v1.toInt ≤ 128)) := mq_2_ret (.inr ⟨_, _, rfl, rfl, rfl, rfl, rfl, r0, r1, r2⟩)
    by_cases c : r < M2.1 1 1
    · rw [if_pos c, if_pos c]
      rw [Int32.lt_iff_toInt_lt] at c
      by_cases d : r - v1 < 128
      · rw [if_pos d, if_pos d]
        rw [Int32.lt_iff_toInt_lt] at d
        simp only [Int32.reduceToInt] at d
        obtain ⟨n, x1, y1, _⟩ := mq_run (v2 := 3) hT (by omega) c (by decide) (by decide)
        rw [x1, y1, mq_Bs, mq_Bs]
        by_cases e : n < 3
        · rw [if_pos e, if_pos e]
          exact mq_2_ret (.inl ⟨_, _, rfl, rfl, ⟨rfl, rfl, rfl, by omega, by omega, by omega⟩, by omega⟩)
        · rw [if_neg e, if_neg e]; exact ex
      · rw [if_neg d, if_neg d]; exact ex
    · rw [if_neg c, if_neg c]; exact ex
  obtain ⟨b, N2, e, q⟩ := L
  rcases q with ⟨a, M2, e1, rfl, rfl, rfl, q⟩ | ⟨_, _, q⟩
  · exact ⟨_, e1, e, q⟩
  · exact q.elim
/-- RUNS are written -/
theorem mq_pruns {M N : mm_M} (h : mq_P M N) (hz : mq_z N ≤ 1000) : mq_2 mq_F (mf_127 M) (mf_252 N) (fun _ M2 _ N2 => mq_P M2 N2) := by
  have s10 := h.1.1.2.2.1
  have s0 := h.1.1.2.1
  unfold mf_127 mf_252
  refine mq_2_Bf (P := fun _ M2 _ N2 => mq_P M2 N2) ?_ (fun _ _ _ _ q => mq_2_ret q)
  unfold mf_127_L2 mf_252_L2
  refine mq_2_Lf (I := fun (a : Int32) M2 (b : Int32) N2 => a = b ∧ 0 ≤ a.toInt ∧ a.toInt ≤ (M.1 1 1).toInt ∧ mq_po (16 * a.toInt) M N () M2 () N2) (m := fun a _ => ((M.1 1 1).toInt - a.toInt).toNat) ?_ ⟨rfl, by decide, s0, h, by simp only [Int32.reduceToInt]; omega, mq_kp_refl, mq_kp_refl⟩
  rintro a M2 b N2 ⟨rfl, a0, a1, hP, z2, f1, f2⟩
  have e11 : M2.1 1 1 = M.1 1 1 := (f1 1 1 rfl).1
  have eN : N2.1 84 2 = M.1 1 1 := by rw [← hP.1.1.1]; exact e11
  unfold mf_127_b2 mf_252_b2
  rw [e11, eN]
  by_cases c : a < M.1 1 1
  · rw [if_pos c, if_pos c]
    rw [Int32.lt_iff_toInt_lt] at c
    obtain ⟨n, x1, y1, hn⟩ := mq_run (v1 := a) (v2 := 128) hP.1.1 a0 (by rw [e11]; exact c) (by decide) (by decide)
    have hn0 := hn
    obtain ⟨n0, n1, n2, _⟩ := hn0
    rw [e11] at n2
    simp only [Int32.reduceToInt] at n1
    rw [x1, y1, mq_Bs, mq_Bs]
    obtain ⟨q1, q2, q3⟩ := hP.1.1.2.2.2 a.toNatClampNeg (by rw [mq_cl, e11]; omega)
    by_cases d : n < 3
    · have d2 : ¬ 2 < n := by rw [Int32.lt_iff_toInt_lt] at d ⊢; simp only [Int32.reduceToInt] at d ⊢; omega
      rw [if_pos d, if_neg d2]
      rw [Int32.lt_iff_toInt_lt] at d
      simp only [Int32.reduceToInt] at d
      have e1 : (a + 1).toInt = a.toInt + 1 := by rw [mi_add]; simp only [Int32.reduceToInt]; omega
      -- the reference's first step
      have st : mf_252_L52 a a N2 = mf_252_L52 a (a + 1) N2 := by
        have e2 : mf_252_L52 a a N2 = mm_B (mf_252_b52 a a N2) (mm_nx (mm_L (fun s M => mf_252_b52 a s M))) := mm_L_eq _ _ _
        rw [e2]
        unfold mf_252_b52
        obtain ⟨n3, _, y3, hn3⟩ := mq_run (v1 := a) (v2 := 3) hP.1.1 a0 (by rw [e11]; exact c) (by decide) (by decide)
        have h3 := mq_rn3 hn hn3 d
        rw [eN, if_pos (by rw [Int32.lt_iff_toInt_lt]; exact c), if_pos (by rw [Int32.lt_iff_toInt_lt, mi_sub]; simp only [Int32.reduceToInt]; omega), y3, mq_Bs, if_pos (by rw [Int32.lt_iff_toInt_lt]; exact h3)]
        rfl
      rw [st]
      obtain ⟨r, x2, y2, r0, r1, r2⟩ := mq_rlit (v1 := a) (a := a + 1) hP.1.1 a0 (by omega) (by rw [e11]; omega) (by omega)
      rw [e11] at r1
      rw [x2, y2, mq_Bs, mq_Bs]
      unfold mf_127_j102 mf_252_j85
      have e3 : (r - a).toInt = r.toInt - a.toInt := by rw [mi_sub]; omega
      have e4 : (r - a - 1).toInt = r.toInt - a.toInt - 1 := by rw [mi_sub, e3]; simp only [Int32.reduceToInt]; omega
      refine mq_2_Bf (mq_pb hP (by omega) (mi_and255 (by omega) (by omega))) ?_
      rintro _ M3 _ N3 ⟨⟨p3, z3, k1, k2⟩, _⟩
      have e13 : M3.1 1 1 = M.1 1 1 := by rw [(k1 1 1 rfl).1]; exact e11
      unfold mf_58
      rw [mq_Ba]
      refine mq_2_Bf (mq_wall (s2 := fun s M => mf_252_b94 s r M) (g := fun a => a) (fun _ _ => rfl) p3 a0 (by omega) (by rw [e13]; omega) (by omega)) ?_
      rintro _ M4 b N4 ⟨rfl, ⟨p4, z4, k3, k4⟩, _⟩
      exact mq_2_ret (.inl ⟨_, _, rfl, rfl, ⟨rfl, by omega, by omega, p4, by omega, mq_kp_trans f1 (mq_kp_trans k1 k3), mq_kp_trans f2 (mq_kp_trans k2 k4)⟩, by omega⟩)
    · have d2 : 2 < n := by rw [Int32.lt_iff_toInt_lt] at d ⊢; simp only [Int32.reduceToInt] at d ⊢; omega
      rw [if_neg d, if_pos d2]
      rw [Int32.lt_iff_toInt_lt] at d2
      simp only [Int32.reduceToInt] at d2
      have e1 : (257 - n).toInt = 257 - n.toInt := by rw [mi_sub]; simp only [Int32.reduceToInt]; omega
      have e2 : (a + n).toInt = a.toInt + n.toInt := by rw [mi_add]; omega
      refine mq_2_Bf (mq_pb hP (by omega) (mi_and255 (by omega) (by omega))) ?_
      rintro _ M3 _ N3 ⟨⟨p3, z3, k1, k2⟩, _⟩
      have hin : mm_in a 10000 = true := mq_inr (by omega) (by omega)
      rw [if_pos hin, if_pos hin]
      have q1' : M3.1 2 a.toNatClampNeg = N3.1 85 a.toNatClampNeg := by rw [(k1 2 _ rfl).1, (k2 85 _ rfl).1]; exact q1
      rw [← q1']
      have e5 : M3.1 2 a.toNatClampNeg = M2.1 2 a.toNatClampNeg := (k1 2 _ rfl).1
      refine mq_2_Bf (mq_pb p3 (by omega) (mi_and255 (by rw [e5]; exact q2) (by rw [e5]; exact q3))) ?_
      rintro _ M4 _ N4 ⟨⟨p4, z4, k3, k4⟩, _⟩
      exact mq_2_ret (.inl ⟨_, _, rfl, rfl, ⟨rfl, by omega, by omega, p4, by omega, mq_kp_trans f1 (mq_kp_trans k1 k3), mq_kp_trans f2 (mq_kp_trans k2 k4)⟩, by omega⟩)
  · rw [if_neg c, if_neg c]
    exact mq_2_ret (.inr ⟨_, _, rfl, rfl, hP⟩)
