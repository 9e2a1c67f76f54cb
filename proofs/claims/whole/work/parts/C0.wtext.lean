/-! WRITING: SORTED, the text -/
def mq_tx (M N : mm_M) (n : Nat) : Prop := (M.1 42 12).toInt = n ∧ ∀ j, j < n → M.1 47 j = N.1 102 j ∧ 0 ≤ (M.1 47 j).toInt ∧ (M.1 47 j).toInt < 256
theorem mq_trun {M N : mm_M} {v1 : Int32} (hT : mq_T M N) (a0 : 0 ≤ v1.toInt) (a1 : v1.toInt < (M.1 1 1).toInt) : ∃ r : Int32, mf_148_L30 v1 (M.1 2 v1.toNatClampNeg) 1 M = some (.inl r, M) ∧ mf_251 v1 255 N = some (.inl r, N) ∧ 1 ≤ r.toInt ∧ r.toInt ≤ 255 ∧ v1.toInt + r.toInt ≤ (M.1 1 1).toInt := by
  obtain ⟨t1, t2, t3, t4⟩ := hT
  have L : mq_2 mq_F (mf_148_L30 v1 (M.1 2 v1.toNatClampNeg) 1 M) (mf_251 v1 255 N) (fun r M2 b N2 => r = b ∧ M2 = M ∧ N2 = N ∧ 1 ≤ r.toInt ∧ r.toInt ≤ 255 ∧ v1.toInt + r.toInt ≤ (M.1 1 1).toInt) := by
    unfold mf_251
    refine mq_2_Br' (P := fun r M2 b N2 => r = b ∧ M2 = M ∧ N2 = N ∧ 1 ≤ r.toInt ∧ r.toInt ≤ 255 ∧ v1.toInt + r.toInt ≤ (M.1 1 1).toInt) (E := mq_F) ?_ (fun _ _ _ _ q => ⟨_, rfl, q⟩) (fun _ _ _ q => q.elim)
    unfold mf_148_L30 mf_251_L2
    refine mq_2_Lf (I := fun (r : Int32) M2 (b : Int32) N2 => r = b ∧ M2 = M ∧ N2 = N ∧ 1 ≤ r.toInt ∧ r.toInt ≤ 255 ∧ v1.toInt + r.toInt ≤ (M.1 1 1).toInt) (m := fun a _ => (255 - a.toInt).toNat) ?_ ⟨rfl, rfl, rfl, by decide, by decide, by simp only [Int32.reduceToInt]; omega⟩
    rintro r M2 b N2 ⟨rfl, rfl, rfl, r0, r1, r2⟩
    unfold mf_148_b30 mf_251_b2
    have e1 : (v1 + r).toInt = v1.toInt + r.toInt := by rw [mi_add]; omega
    have e2 : (r + 1).toInt = r.toInt + 1 := by rw [mi_add]; simp only [Int32.reduceToInt]; omega
    rw [← t1]
    by_cases c : r < 255
    · rw [if_pos c, if_pos c]
      rw [Int32.lt_iff_toInt_lt] at c
      simp only [Int32.reduceToInt] at c
      by_cases d : v1 + r < M2.1 1 1
      · rw [if_pos d, if_pos d]
        rw [Int32.lt_iff_toInt_lt] at d
        have i1 : mm_in (v1 + r) 10000 = true := mq_inr (by omega) (by omega)
        have i2 : mm_in v1 10000 = true := mq_inr (by omega) (by omega)
        rw [if_pos i1, if_pos i1, if_pos i2, ← (t4 (v1 + r).toNatClampNeg (by rw [mq_cl]; omega)).1, ← (t4 v1.toNatClampNeg (by rw [mq_cl]; omega)).1]
        by_cases q : M2.1 2 (v1 + r).toNatClampNeg = M2.1 2 v1.toNatClampNeg
        · rw [if_pos q, if_pos q]
          exact mq_2_ret (.inl ⟨_, _, rfl, rfl, ⟨rfl, rfl, rfl, by omega, by omega, by omega⟩, by omega⟩)
        · rw [if_neg q, if_neg q]
          exact mq_2_ret (.inr ⟨_, _, rfl, rfl, rfl, rfl, rfl, r0, r1, r2⟩)
      · rw [if_neg d, if_neg d]
        exact mq_2_ret (.inr ⟨_, _, rfl, rfl, rfl, rfl, rfl, r0, r1, r2⟩)
    · rw [if_neg c, if_neg c]
      exact mq_2_ret (.inr ⟨_, _, rfl, rfl, rfl, rfl, rfl, r0, r1, r2⟩)
  obtain ⟨b, N2, e, q⟩ := L
  rcases q with ⟨a, M2, e1, rfl, rfl, rfl, q⟩ | ⟨_, _, q⟩
  · exact ⟨_, e1, e, q⟩
  · exact q.elim
theorem mq_tx_put {M N : mm_M} {n : Nat} {v w k : Int32} (h : mq_tx M N n) (hn : (M.1 42 12).toNatClampNeg = n) (hk : k.toNatClampNeg = n) (hs : n < 12500) (e : v = w) (v0 : 0 ≤ v.toInt) (v1 : v.toInt < 256) : mq_tx (mm_pi (mm_pi M 47 (M.1 42 12).toNatClampNeg v) 42 12 (M.1 42 12 + 1)) (mm_pi N 102 k.toNatClampNeg w) (n + 1) := by
  obtain ⟨h1, h2⟩ := h
  subst e
  rw [hn, hk]
  refine ⟨?_, fun j hj => ?_⟩
  · show (M.1 42 12 + 1).toInt = _
    rw [mi_add, h1]
    simp only [Int32.reduceToInt]
    omega
  · show (mm_pi M 47 n v).1 47 j = (mm_pi N 102 n v).1 102 j ∧ 0 ≤ ((mm_pi M 47 n v).1 47 j).toInt ∧ ((mm_pi M 47 n v).1 47 j).toInt < 256
    by_cases q : j = n
    · rw [q, mq_ps, mq_ps]; exact ⟨rfl, v0, v1⟩
    · rw [mq_pj q, mq_pj q]; exact h2 j (by omega)
/-- four of them at most -/
theorem mq_tadd {M N : mm_M} {n l : Nat} {v2 l3 t4 vn b : Int32} (h : mq_tx M N n) (hb : ∀ N2, mq_kp [(102, none)] N N2 → N2.1 85 v2.toNatClampNeg = b) (hin : mm_in v2 10000 = true) (b0 : 0 ≤ b.toInt) (b1 : b.toInt < 256) (hl : l3.toInt = l) (hm : t4.toInt = ((min l 4 : Nat) : Int)) (hn : vn.toInt = n) (hs : n + min l 4 ≤ 12500) : mq_2 mq_F (mf_149 b t4 M) (mf_275_L24 v2 l3 (vn, 0) N) (fun _ M2 r N2 => r.toInt = ((n + min l 4 : Nat) : Int) ∧ mq_tx M2 N2 (n + min l 4) ∧ mq_kp [(42, some 12), (47, none)] M M2 ∧ mq_kp [(102, none)] N N2) := by
  unfold mf_149
  refine mq_2_Bl' (P := fun _ M2 r N2 => r.toInt = ((n + min l 4 : Nat) : Int) ∧ mq_tx M2 N2 (n + min l 4) ∧ mq_kp [(42, some 12), (47, none)] M M2 ∧ mq_kp [(102, none)] N N2) ?_ (fun _ _ _ _ q => ⟨(), rfl, q⟩)
  unfold mf_149_L2 mf_275_L24
  refine mq_2_Lf (I := fun (a : Int32) M2 (s : Int32 × Int32) N2 => a = s.2 ∧ ∃ k : Nat, a.toInt = k ∧ k ≤ min l 4 ∧ s.1.toInt = ((n + k : Nat) : Int) ∧ mq_tx M2 N2 (n + k) ∧ mq_kp [(42, some 12), (47, none)] M M2 ∧ mq_kp [(102, none)] N N2) (m := fun a _ => (4 - a.toInt).toNat) ?_ ⟨rfl, 0, rfl, Nat.zero_le _, hn, h, mq_kp_refl, mq_kp_refl⟩
  rintro a M2 ⟨x, a'⟩ N2 ⟨e, k, ha, hk, hx, ht, k1, k2⟩
  dsimp only at e hx ⊢
  subst e
  unfold mf_149_b2 mf_275_b24
  by_cases c : a < t4
  · have c' := c
    rw [Int32.lt_iff_toInt_lt] at c'
    have hn2 : (M2.1 42 12).toNatClampNeg = n + k := by rw [mq_cl]; have := ht.1; omega
    have hx2 : x.toNatClampNeg = n + k := by rw [mq_cl]; omega
    rw [if_pos c, if_pos (by rw [Int32.lt_iff_toInt_lt, ht.1]; simp only [Int32.reduceToInt]; omega), if_pos (mq_inr (by rw [ht.1]; omega) (by rw [ht.1]; omega)), if_pos (by rw [Int32.lt_iff_toInt_lt]; omega), if_pos (by rw [Int32.lt_iff_toInt_lt]; simp only [Int32.reduceToInt]; omega), if_pos hin, if_pos (mq_inr (by omega) (by omega))]
    have e1 : (a + 1).toInt = ((k + 1 : Nat) : Int) := by rw [mi_add]; simp only [Int32.reduceToInt]; omega
    have e2 : (x + 1).toInt = ((n + (k + 1) : Nat) : Int) := by rw [mi_add]; simp only [Int32.reduceToInt]; omega
    refine mq_2_ret (.inl ⟨_, _, rfl, rfl, ⟨rfl, k + 1, e1, by omega, e2, mq_tx_put (n := n + k) ht hn2 hx2 (by omega) (hb N2 k2).symm b0 b1, mq_kp_pi (mq_kp_pi k1 rfl) rfl, mq_kp_pi k2 rfl⟩, by omega⟩)
  · rw [if_neg c]
    rw [Int32.lt_iff_toInt_lt] at c
    have : k = min l 4 := by omega
    subst this
    have ex : mq_2 mq_F (some (.inl (.inr ()), M2) : mm_O (Int32 ⊕ Unit)) (some (.inl (.inr x), N2) : mm_O ((Int32 × Int32) ⊕ Int32)) (fun r M3 t N3 => (∃ a2 b2, r = .inl a2 ∧ t = .inl b2 ∧ (a2 = b2.2 ∧ ∃ k : Nat, a2.toInt = k ∧ k ≤ min l 4 ∧ b2.1.toInt = ((n + k : Nat) : Int) ∧ mq_tx M3 N3 (n + k) ∧ mq_kp [(42, some 12), (47, none)] M M3 ∧ mq_kp [(102, none)] N N3) ∧ (4 - a2.toInt).toNat < (4 - a.toInt).toNat) ∨ (∃ u v, r = .inr u ∧ t = .inr v ∧ v.toInt = ((n + min l 4 : Nat) : Int) ∧ mq_tx M3 N3 (n + min l 4) ∧ mq_kp [(42, some 12), (47, none)] M M3 ∧ mq_kp [(102, none)] N N3)) := mq_2_ret (.inr ⟨_, _, rfl, rfl, hx, ht, k1, k2⟩)
    by_cases d : a < l3
    · rw [if_pos d, if_neg (by rw [Int32.lt_iff_toInt_lt] at d ⊢; simp only [Int32.reduceToInt]; omega)]
      exact ex
    · rw [if_neg d]; exact ex
/-- the text is made -/
theorem mq_text9 {M N : mm_M} (hT : mq_T M N) : mq_2 mq_F (mf_148 M) (mf_275 N) (fun _ M2 r N2 => ∃ n : Nat, r.toInt = n ∧ 4 * n ≤ 5 * (M.1 1 1).toInt ∧ (0 < (M.1 1 1).toInt → 0 < n) ∧ mq_tx M2 N2 n ∧ mq_kp [(42, some 12), (47, none)] M M2 ∧ mq_kp [(102, none)] N N2) := by
  have s10 := hT.2.2.1
  have s0 := hT.2.1
  unfold mf_148 mf_275
  refine mq_2_Bf (P := fun _ M2 (r : Int32) N2 => ∃ n : Nat, r.toInt = n ∧ 4 * n ≤ 5 * (M.1 1 1).toInt ∧ (0 < (M.1 1 1).toInt → 0 < n) ∧ mq_tx M2 N2 n ∧ mq_kp [(42, some 12), (47, none)] M M2 ∧ mq_kp [(102, none)] N N2) ?_ (fun _ _ _ _ q => mq_2_ret q)
  unfold mf_148_L7 mf_275_L4
  refine mq_2_Lf (I := fun (a : Int32) M2 (s : Int32 × Int32) N2 => a = s.2 ∧ ∃ k n : Nat, a.toInt = k ∧ (k : Int) ≤ (M.1 1 1).toInt ∧ s.1.toInt = n ∧ 4 * n ≤ 5 * k ∧ (0 < k → 0 < n) ∧ mq_tx M2 N2 n ∧ mq_kp [(42, some 12), (47, none)] M M2 ∧ mq_kp [(102, none)] N N2) (m := fun a _ => ((M.1 1 1).toInt - a.toInt).toNat) ?_ ⟨rfl, 0, 0, rfl, s0, rfl, by omega, by omega, ⟨rfl, fun j hj => absurd hj (Nat.not_lt_zero _)⟩, mq_kp_pi mq_kp_refl rfl, mq_kp_refl⟩
  rintro a M2 ⟨x, a'⟩ N2 ⟨e, k, n, ha, hk, hx, hn5, hn0, ht, k1, k2⟩
  dsimp only at e hx ⊢
  subst e
  have eM : M2.1 1 1 = M.1 1 1 := (k1 1 1 rfl).1
  have eN : N2.1 84 2 = M.1 1 1 := by rw [(k2 84 2 rfl).1]; exact hT.1.symm
  have hT2 : mq_T M2 N2 := by
    obtain ⟨t1, t2, t3, t4⟩ := hT
    refine ⟨by rw [eM, eN], by rw [eM]; exact t2, by rw [eM]; exact t3, fun j hj => ?_⟩
    rw [eM] at hj
    rw [(k1 2 j rfl).1, (k2 85 j rfl).1]
    exact t4 j hj
  unfold mf_148_b7 mf_275_b4
  rw [eM, eN]
  by_cases c : a < M.1 1 1
  · rw [if_pos c, if_pos c]
    rw [Int32.lt_iff_toInt_lt] at c
    have hin : mm_in a 10000 = true := mq_inr (by omega) (by omega)
    obtain ⟨r, x1, y1, r0, r1, r2⟩ := mq_trun (v1 := a) hT2 (by omega) (by rw [eM]; exact c)
    rw [eM] at r2
    rw [if_pos hin, x1, y1, mq_Bs, mq_Bs]
    obtain ⟨l, hl⟩ : ∃ l : Nat, r.toInt = l := ⟨r.toInt.toNat, by omega⟩
    obtain ⟨q1, q2, q3⟩ := hT2.2.2.2 a.toNatClampNeg (by rw [mq_cl, eM]; omega)
    have e4 : (a + r).toInt = ((k + l : Nat) : Int) := by rw [mi_add]; omega
    have add : ∀ t4 : Int32, t4.toInt = ((min l 4 : Nat) : Int) → mq_2 mq_F (mf_148_j83 a r (M2.1 2 a.toNatClampNeg) t4 M2) (mm_B (mf_275_L24 a r (x, (0 : Int32)) N2) (fun r4 M3 => mf_275_j57 r4 a r M3)) (fun rr M3 t N3 => (∃ a2 b2, rr = .inl a2 ∧ t = .inl b2 ∧ (a2 = b2.2 ∧ ∃ k n : Nat, a2.toInt = k ∧ (k : Int) ≤ (M.1 1 1).toInt ∧ b2.1.toInt = n ∧ 4 * n ≤ 5 * k ∧ (0 < k → 0 < n) ∧ mq_tx M3 N3 n ∧ mq_kp [(42, some 12), (47, none)] M M3 ∧ mq_kp [(102, none)] N N3) ∧ ((M.1 1 1).toInt - a2.toInt).toNat < ((M.1 1 1).toInt - a.toInt).toNat) ∨ (∃ u v, rr = .inr u ∧ t = .inr v ∧ ∃ n : Nat, v.toInt = n ∧ 4 * n ≤ 5 * (M.1 1 1).toInt ∧ (0 < (M.1 1 1).toInt → 0 < n) ∧ mq_tx M3 N3 n ∧ mq_kp [(42, some 12), (47, none)] M M3 ∧ mq_kp [(102, none)] N N3)) := by
      intro t4 ht4
      unfold mf_148_j83
      refine mq_2_Bf (mq_tadd (v2 := a) (l := l) ht (fun N3 q => by rw [(q 85 _ rfl).1]; exact q1.symm) hin q2 q3 hl ht4 hx (by omega)) ?_
      rintro _ M3 y N3 ⟨hy, ht3, k3, k4⟩
      unfold mf_275_j57
      have kM := mq_kp_trans k1 k3
      have kN := mq_kp_trans k2 k4
      by_cases d : r < 4
      · have d' : ¬ 3 < r := by rw [Int32.lt_iff_toInt_lt] at d ⊢; simp only [Int32.reduceToInt] at d ⊢; omega
        rw [if_pos d, if_neg d']
        rw [Int32.lt_iff_toInt_lt] at d
        simp only [Int32.reduceToInt] at d
        have em : min l 4 = l := by omega
        rw [em] at hy ht3
        exact mq_2_ret (.inl ⟨_, _, rfl, rfl, ⟨rfl, k + l, n + l, e4, by omega, hy, by omega, by omega, ht3, kM, kN⟩, by omega⟩)
      · have d' : 3 < r := by rw [Int32.lt_iff_toInt_lt] at d ⊢; simp only [Int32.reduceToInt] at d ⊢; omega
        rw [if_neg d, if_pos d']
        rw [Int32.lt_iff_toInt_lt] at d'
        simp only [Int32.reduceToInt] at d'
        have em : min l 4 = 4 := by omega
        rw [em] at hy ht3
        have e5 : (r - 4).toInt = r.toInt - 4 := by rw [mi_sub]; simp only [Int32.reduceToInt]; omega
        have hy2 : y.toNatClampNeg = n + 4 := by rw [mq_cl]; omega
        have hn2 : (M3.1 42 12).toNatClampNeg = n + 4 := by rw [mq_cl]; have := ht3.1; omega
        rw [if_pos (mq_inr (by omega) (by omega))]
        have x149 : mf_149 (r - 4) 1 M3 = some (.inl (), mm_pi (mm_pi M3 47 (M3.1 42 12).toNatClampNeg (r - 4)) 42 12 (M3.1 42 12 + 1)) := by
          unfold mf_149
          have e6 : ∀ s M, mf_149_L2 (r - 4) 1 s M = mm_B (mf_149_b2 (r - 4) 1 s M) (mm_nx (mm_L (fun s M => mf_149_b2 (r - 4) 1 s M))) := fun s M => mm_L_eq _ _ _
          rw [e6]
          have s1 : mf_149_b2 (r - 4) 1 0 M3 = some (.inl (.inl (0 + 1)), mm_pi (mm_pi M3 47 (M3.1 42 12).toNatClampNeg (r - 4)) 42 12 (M3.1 42 12 + 1)) := by
            unfold mf_149_b2
            rw [if_pos (by decide), if_pos (by rw [Int32.lt_iff_toInt_lt, ht3.1]; simp only [Int32.reduceToInt]; omega), if_pos (mq_inr (by rw [ht3.1]; omega) (by rw [ht3.1]; omega))]
          rw [s1, mq_Bs]
          show mm_B (mf_149_L2 (r - 4) 1 (0 + 1) _) _ = _
          rw [e6]
          unfold mf_149_b2
          rw [if_neg (by decide)]
          rfl
        rw [x149, mq_Bs]
        have e7 : (y + 1).toInt = ((n + 5 : Nat) : Int) := by rw [mi_add]; simp only [Int32.reduceToInt]; omega
        have tp := mq_tx_put (v := r - 4) (w := r - 4) ht3 hn2 hy2 (by omega) rfl (by omega) (by omega)
        exact mq_2_ret (.inl ⟨_, _, rfl, rfl, ⟨rfl, k + l, n + 5, e4, by omega, e7, by omega, by omega, tp, mq_kp_pi (mq_kp_pi kM rfl) rfl, mq_kp_pi kN rfl⟩, by omega⟩)
    unfold mf_148_j71
    by_cases d : r < 4
    · rw [if_pos d]
      rw [Int32.lt_iff_toInt_lt] at d
      simp only [Int32.reduceToInt] at d
      exact add r (by omega)
    · rw [if_neg d]
      rw [Int32.lt_iff_toInt_lt] at d
      simp only [Int32.reduceToInt] at d
      exact add 4 (by simp only [Int32.reduceToInt]; omega)
  · rw [if_neg c, if_neg c]
    rw [Int32.lt_iff_toInt_lt] at c
    exact mq_2_ret (.inr ⟨_, _, rfl, rfl, n, hx, by omega, by omega, ht, k1, k2⟩)
