/-! THE CALLS: least, all places (2) -/
theorem mq_lall {M N : mm_M} {T : Nat → Int32} {x : Int32} {n : Nat} (hx : x.toInt = (n : Int) - 1) (n3 : n ≤ 300) (hn : (N.1 84 2).toInt = n) (hT : ∀ j, j < n → M.1 2 j = T j ∧ N.1 85 j = T j ∧ 0 ≤ (T j).toInt) (h33 : M.1 33 n = 7) (h107 : N.1 107 n = 7) (h34 : ∀ d, d ≤ 300 → M.1 34 d = 0) : mq_2 mq_F (mf_97_L38 x M) (mf_287_L35 x N) (fun _ M2 _ N2 => M2.1 33 0 = N2.1 107 0 ∧ mq_kp [(33, none), (34, none)] M M2 ∧ mq_kp [(107, none)] N N2) := by
  unfold mf_97_L38 mf_287_L35
  refine mq_2_Lf (I := fun (a : Int32) M2 (y : Int32) N2 => y = a ∧ ∃ k : Nat, a.toInt = (k : Int) - 1 ∧ k ≤ n ∧ (∀ j, k ≤ j → j ≤ n → M2.1 33 j = N2.1 107 j ∧ 0 ≤ (M2.1 33 j).toInt ∧ (M2.1 33 j).toInt ≤ 20 * ((n : Int) + 1 - j)) ∧ (∀ d, 1 ≤ d → d ≤ k → ∃ r : Nat, (M2.1 34 d).toInt = r ∧ mc_rp T n k d r) ∧ mq_kp [(33, none), (34, none)] M M2 ∧ mq_kp [(107, none)] N N2) (m := fun a _ => (a.toInt + 1).toNat) ?_ ⟨rfl, n, hx, Nat.le_refl _, fun j j1 j2 => ?_, fun d d1 d2 => ⟨0, by rw [h34 d (by omega)]; rfl, mc_rp_0 (Nat.le_refl _) (fun z => by omega)⟩, mq_kp_refl, mq_kp_refl⟩
  · rintro a M2 y N2 ⟨rfl, k, ha, hk, h1, h2, k1, k2⟩
    unfold mf_97_b38 mf_287_b35
    by_cases q : y < 0
    · rw [if_pos q, if_pos q]
      rw [Int32.lt_iff_toInt_lt] at q
      simp only [Int32.reduceToInt] at q
      have : k = 0 := by omega
      subst this
      exact mq_2_ret (.inr ⟨_, _, rfl, rfl, (h1 0 (by omega) (by omega)).1, k1, k2⟩)
    · rw [if_neg q, if_neg q]
      rw [Int32.lt_iff_toInt_lt] at q
      simp only [Int32.reduceToInt] at q
      obtain ⟨i, rfl⟩ : ∃ i, k = i + 1 := ⟨k - 1, by omega⟩
      have ny : y.toNatClampNeg = i := by rw [mq_cl]; omega
      have e1 : (y + 1).toInt = ((i + 1 : Nat) : Int) := by rw [mi_add]; simp only [Int32.reduceToInt]; omega
      have n1 : (y + 1).toNatClampNeg = i + 1 := by rw [mq_cl]; omega
      have hin : mm_in y 10000 = true := mq_inr (by omega) (by omega)
      have hin3 : mm_in y 301 = true := mq_inr (by omega) (by omega)
      have hin4 : mm_in (y + 1) 301 = true := mq_inr (by omega) (by omega)
      obtain ⟨t1, t2, t3⟩ := hT i (by omega)
      rw [if_pos hin, if_pos hin, ny, (k1 2 i rfl).1, (k2 85 i rfl).1, t1, t2]
      obtain ⟨r, r1, r2⟩ := mq_82 (M := M2) (x := T i) (s := (T i).toInt.toNat) (by omega)
      obtain ⟨r', r3, r4⟩ := mq_82 (M := N2) (x := T i) (s := (T i).toInt.toNat) (by omega)
      obtain rfl : r = r' := Int32.toInt_inj.mp (by omega)
      have r3' : mf_286 (T i) N2 = some (.inl r, N2) := r3
      have kf := mc_kf_le (T i).toInt.toNat
      rw [r1, r3', mq_Bs, mq_Bs, if_pos hin4, if_pos hin4, if_pos hin3, n1]
      obtain ⟨p1, p2, p3⟩ := h1 (i + 1) (by omega) (by omega)
      rw [← p1]
      have eb : (r + M2.1 33 (i + 1)).toInt = r.toInt + (M2.1 33 (i + 1)).toInt := by rw [mi_add]; omega
      have D := mq_ldist (M := mm_pi M2 33 i (r + M2.1 33 (i + 1))) (N := N2) (T := T) (v := y) (b := r + M2.1 33 (i + 1)) (k := i) (n := n) (by omega) (by omega) n3 (by rw [(k2 84 2 rfl).1]; exact hn) (fun j hj => ⟨by rw [mq_pn (by decide), (k1 2 j rfl).1]; exact (hT j hj).1, by rw [(k2 85 j rfl).1]; exact (hT j hj).2.1⟩) mq_ps (by omega) (by omega) (fun j j1 j2 => by
        rw [mq_pj (by omega)]
        obtain ⟨a1, a2, a3⟩ := h1 j (by omega) j2
        exact ⟨a1, a2, by omega⟩) (fun d d1 d2 => by rw [mq_pn (by decide)]; exact h2 d d1 (by omega))
      obtain ⟨c, N3, y1, D⟩ := D
      rcases D with ⟨u, M3, x1, rfl, g1, g2, g3, g4, g5, g6⟩ | ⟨_, _, D⟩
      · rw [x1, y1, mq_Bs, mq_Bs]
        unfold mf_287_j185
        rw [if_pos hin3, ny]
        have ed : (y + (-1)).toInt = (i : Int) - 1 := by rw [mi_add]; simp only [Int32.reduceToInt]; omega
        generalize y + (-1) = z at ed ⊢
        refine mq_2_ret (.inl ⟨_, _, rfl, rfl, ⟨rfl, i, ed, by omega, fun j j1 j2 => ?_, g5, mq_kp_trans (mq_kp_pi k1 rfl) g6, mq_kp_pi k2 rfl⟩, by omega⟩)
        by_cases z : j = i
        · rw [z, mq_ps, g1]
          exact ⟨rfl, g2, by omega⟩
        · rw [mq_pj z, g4 j z, mq_pj z]
          exact h1 j (by omega) j2
      · exact D.elim
  · have : j = n := by omega
    subst this
    rw [h33, h107]
    refine ⟨rfl, by decide, ?_⟩
    simp only [Int32.reduceToInt]
    omega
theorem mq_least {M N : mm_M} (h : mq_J M N) : mq_2 mq_F (mf_22 M) (mf_287 N) (fun a M2 b N2 => a = b ∧ mq_J M2 N2) := by
  have jN := mq_J_0 (v := 0) h
  obtain ⟨t1, t2, t3, t4⟩ := h.1
  unfold mf_22 mf_287
  rw [← t1]
  by_cases c : 300 < M.1 1 1
  · rw [if_pos c, if_pos c]
    exact mq_2_ret ⟨rfl, jN⟩
  · rw [if_neg c, if_neg c]
    rw [Int32.lt_iff_toInt_lt] at c
    simp only [Int32.reduceToInt] at c
    obtain ⟨n, hn⟩ : ∃ n : Nat, (M.1 1 1).toInt = n := ⟨(M.1 1 1).toInt.toNat, by omega⟩
    have nn : (M.1 1 1).toNatClampNeg = n := by rw [mq_cl]; omega
    have hmin : mm_min (M.1 1 1) 300 = M.1 1 1 := Int32.toInt_inj.mp (by rw [mq_min]; simp only [Int32.reduceToInt]; split <;> omega)
    have hin : mm_in (M.1 1 1) 301 = true := mq_inr (by omega) (by omega)
    unfold mf_97
    rw [hmin, if_pos hin, nn]
    obtain ⟨u, M1, x1, x2, x3⟩ := mq_fill (M := M) (q := 34) (n := 301) (v := 0) (by decide)
    obtain ⟨r, y1, y2⟩ := mq_82 (M := M1) (x := 256) (s := 256) rfl
    have r7 : r = 7 := Int32.toInt_inj.mp (by rw [y2]; rfl)
    subst r7
    rw [x1, mq_Bs, y1, mq_Bs, if_pos hin]
    have D := mq_lall (M := mm_pi M1 33 n 7) (N := mm_pi (mm_pi N 84 0 0) 107 n 7) (T := M.1 2) (x := M.1 1 1 - 1) (n := n) (by rw [mi_sub]; simp only [Int32.reduceToInt]; omega) (by omega) (by
        rw [mq_pn (by decide), mq_pj (by decide), ← t1]; exact hn) (fun j hj => by
        obtain ⟨a1, a2, a3⟩ := t4 j (by omega)
        refine ⟨by rw [mq_pn (by decide), (x3 2 j rfl).1], by rw [mq_pn (by decide), mq_pn (by decide), ← a1], a2⟩) mq_ps mq_ps (fun d hd => by rw [mq_pn (by decide)]; exact x2 d (by omega))
    obtain ⟨c2, N3, z1, D⟩ := D
    rcases D with ⟨u3, M3, z2, z3, z4, z5⟩ | ⟨_, _, D⟩
    · rw [z1, z2, mq_Bs, mq_Bs]
      unfold mf_97_j220 mf_287_j198
      rw [if_pos (by decide), if_pos (by decide)]
      have e0 : (0 : Int32).toNatClampNeg = 0 := rfl
      rw [e0, z3, mq_Bs]
      refine mq_2_ret ⟨rfl, ?_⟩
      have kM : mq_kp [(33, none), (34, none)] M M3 := mq_kp_trans (mq_kp_pi (mq_kp_sub x3 rfl) rfl) z4
      have kN : mq_kp [(107, none)] (mm_pi N 84 0 0) N3 := mq_kp_trans (mq_kp_pi mq_kp_refl rfl) z5
      exact mq_J_kp jN kM kN rfl rfl
    · exact D.elim
